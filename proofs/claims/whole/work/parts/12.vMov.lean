set_option maxRecDepth 20000 in
theorem wM_X4_3 : Cond.methodLink "StateShares$Moves" 3 (objectInit) ∈ lw_gd := lw_in 126 (by decide +kernel) rfl
set_option maxRecDepth 20000 in
theorem wF_X4_9 : Cond.fieldLink "StateShares$Moves" 9 "StateShares$Moves" "n" "I" ∈ lw_gd := lw_in 127 (by decide +kernel) rfl
set_option maxRecDepth 20000 in
theorem wF_X4_15 : Cond.fieldLink "StateShares$Moves" 15 "StateShares$Moves" "numbers" "[I" ∈ lw_gd := lw_in 128 (by decide +kernel) rfl
set_option maxRecDepth 20000 in
theorem wF_X4_19 : Cond.fieldLink "StateShares$Moves" 19 "StateShares$Moves" "totals" "[I" ∈ lw_gd := lw_in 129 (by decide +kernel) rfl
set_option maxRecDepth 20000 in
theorem wF_X4_22 : Cond.fieldLink "StateShares$Moves" 22 "StateShares$Moves" "groups" "[I" ∈ lw_gd := lw_in 130 (by decide +kernel) rfl
set_option maxRecDepth 20000 in
theorem wF_X4_25 : Cond.fieldLink "StateShares$Moves" 25 "StateShares$Moves" "tops" "[I" ∈ lw_gd := lw_in 131 (by decide +kernel) rfl
set_option maxRecDepth 20000 in
theorem wF_X4_28 : Cond.fieldLink "StateShares$Moves" 28 "StateShares$Moves" "bottoms" "[I" ∈ lw_gd := lw_in 132 (by decide +kernel) rfl
set_option maxRecDepth 20000 in
theorem wF_X4_31 : Cond.fieldLink "StateShares$Moves" 31 "StateShares$Moves" "leastMoves" "I" ∈ lw_gd := lw_in 133 (by decide +kernel) rfl
set_option maxRecDepth 20000 in
theorem wF_X4_34 : Cond.fieldLink "StateShares$Moves" 34 "StateShares$Moves" "changed" "Z" ∈ lw_gd := lw_in 134 (by decide +kernel) rfl
set_option maxRecDepth 20000 in
theorem wM_X4_38 : Cond.methodLink "StateShares$Moves" 38 (yX4_countAll) ∈ lw_gd := lw_in 576 (by decide +kernel) rfl
set_option maxRecDepth 20000 in
theorem wi_X4_countAll : Cond.instanceMethod (yX4_countAll) ∈ lw_gd := lw_in 578 (by decide +kernel) rfl
set_option maxRecDepth 20000 in
theorem wS_X4_countAll : Cond.selects "StateShares$Moves" (yX4_countAll) (yX4_countAll) ∈ lw_gd := lw_inS (q := ((yX4_countAll), 8)) 18 (by decide +kernel)
set_option maxRecDepth 20000 in
theorem wc_X4_countAll : Cond.code yX4_countAll cX4_countAll 6 none ∈ lw_gd := lw_in 579 (by decide +kernel) rfl
set_option maxRecDepth 20000 in
theorem wM_X4_42 : Cond.methodLink "StateShares$Moves" 42 (yX4_groupAll) ∈ lw_gd := lw_in 581 (by decide +kernel) rfl
set_option maxRecDepth 20000 in
theorem wi_X4_groupAll : Cond.instanceMethod (yX4_groupAll) ∈ lw_gd := lw_in 583 (by decide +kernel) rfl
set_option maxRecDepth 20000 in
theorem wS_X4_groupAll : Cond.selects "StateShares$Moves" (yX4_groupAll) (yX4_groupAll) ∈ lw_gd := lw_inS (q := ((yX4_groupAll), 8)) 19 (by decide +kernel)
set_option maxRecDepth 20000 in
theorem wc_X4_groupAll : Cond.code yX4_groupAll cX4_groupAll 5 none ∈ lw_gd := lw_in 584 (by decide +kernel) rfl
set_option maxRecDepth 20000 in
theorem wM_X4_45 : Cond.methodLink "StateShares$Moves" 45 (yX4_shareOut) ∈ lw_gd := lw_in 589 (by decide +kernel) rfl
set_option maxRecDepth 20000 in
theorem wi_X4_shareOut : Cond.instanceMethod (yX4_shareOut) ∈ lw_gd := lw_in 591 (by decide +kernel) rfl
set_option maxRecDepth 20000 in
theorem wS_X4_shareOut : Cond.selects "StateShares$Moves" (yX4_shareOut) (yX4_shareOut) ∈ lw_gd := lw_inS (q := ((yX4_shareOut), 8)) 21 (by decide +kernel)
set_option maxRecDepth 20000 in
theorem wc_X4_shareOut : Cond.code yX4_shareOut cX4_shareOut 5 none ∈ lw_gd := lw_in 592 (by decide +kernel) rfl
set_option maxRecDepth 20000 in
theorem wM_X4_49 : Cond.methodLink "StateShares$Moves" 49 (yX3_stateOf) ∈ lw_gd := lw_in 580 (by decide +kernel) rfl
set_option maxRecDepth 20000 in
theorem wi_X3_stateOf : Cond.instanceMethod (yX3_stateOf) ∈ lw_gd := lw_in 496 (by decide +kernel) rfl
set_option maxRecDepth 20000 in
theorem wS_X3_stateOf : Cond.selects "StateShares$Marks" (yX3_stateOf) (yX3_stateOf) ∈ lw_gd := lw_in 497 (by decide +kernel) rfl
set_option maxRecDepth 20000 in
theorem wI_StateShares_Marks : Cond.initialized "StateShares$Marks" ∈ lw_gd := lw_in 5 (by decide +kernel) rfl
set_option maxRecDepth 20000 in
theorem wc_X3_stateOf : Cond.code yX3_stateOf cX3_stateOf 3 (some .int) ∈ lw_gd := lw_in 498 (by decide +kernel) rfl
set_option maxRecDepth 20000 in
theorem wM_X4_55 : Cond.methodLink "StateShares$Moves" 55 (yX4_joinToGroupBefore) ∈ lw_gd := lw_in 585 (by decide +kernel) rfl
set_option maxRecDepth 20000 in
theorem wi_X4_joinToGroupBefore : Cond.instanceMethod (yX4_joinToGroupBefore) ∈ lw_gd := lw_in 587 (by decide +kernel) rfl
set_option maxRecDepth 20000 in
theorem wS_X4_joinToGroupBefore : Cond.selects "StateShares$Moves" (yX4_joinToGroupBefore) (yX4_joinToGroupBefore) ∈ lw_gd := lw_inS (q := ((yX4_joinToGroupBefore), 8)) 20 (by decide +kernel)
set_option maxRecDepth 20000 in
theorem wc_X4_joinToGroupBefore : Cond.code yX4_joinToGroupBefore cX4_joinToGroupBefore 3 none ∈ lw_gd := lw_in 588 (by decide +kernel) rfl
set_option maxRecDepth 20000 in
theorem wM_X4_58 : Cond.methodLink "StateShares$Moves" 58 (yX4_movesInGroup) ∈ lw_gd := lw_in 593 (by decide +kernel) rfl
set_option maxRecDepth 20000 in
theorem wi_X4_movesInGroup : Cond.instanceMethod (yX4_movesInGroup) ∈ lw_gd := lw_in 595 (by decide +kernel) rfl
set_option maxRecDepth 20000 in
theorem wS_X4_movesInGroup : Cond.selects "StateShares$Moves" (yX4_movesInGroup) (yX4_movesInGroup) ∈ lw_gd := lw_inS (q := ((yX4_movesInGroup), 8)) 22 (by decide +kernel)
set_option maxRecDepth 20000 in
theorem wc_X4_movesInGroup : Cond.code yX4_movesInGroup cX4_movesInGroup 6 (some .int) ∈ lw_gd := lw_in 596 (by decide +kernel) rfl
set_option maxRecDepth 20000 in
theorem wM_X4_65 : Cond.methodLink "StateShares$Moves" 65 (Lib.Math.max.name) ∈ lw_gd := lw_in 601 (by decide +kernel) rfl
set_option maxRecDepth 20000 in
theorem wM_X4_61 : Cond.methodLink "StateShares$Moves" 61 (yX4_setTop) ∈ lw_gd := lw_in 597 (by decide +kernel) rfl
set_option maxRecDepth 20000 in
theorem wi_X4_setTop : Cond.instanceMethod (yX4_setTop) ∈ lw_gd := lw_in 599 (by decide +kernel) rfl
set_option maxRecDepth 20000 in
theorem wS_X4_setTop : Cond.selects "StateShares$Moves" (yX4_setTop) (yX4_setTop) ∈ lw_gd := lw_inS (q := ((yX4_setTop), 8)) 23 (by decide +kernel)
set_option maxRecDepth 20000 in
theorem wc_X4_setTop : Cond.code yX4_setTop cX4_setTop 3 none ∈ lw_gd := lw_in 600 (by decide +kernel) rfl
set_option maxRecDepth 20000 in
theorem wM_X4_70 : Cond.methodLink "StateShares$Moves" 70 (yX4_top) ∈ lw_gd := lw_in 772 (by decide +kernel) rfl
set_option maxRecDepth 20000 in
theorem wM_X4_73 : Cond.methodLink "StateShares$Moves" 73 (yX4_bottom) ∈ lw_gd := lw_in 773 (by decide +kernel) rfl
set_option maxRecDepth 20000 in
theorem wM_X3_3 : Cond.methodLink "StateShares$Marks" 3 (objectInit) ∈ lw_gd := lw_in 107 (by decide +kernel) rfl
set_option maxRecDepth 20000 in
theorem wF_X3_11 : Cond.fieldLink "StateShares$Marks" 11 "StateShares$Marks" "seen" "[I" ∈ lw_gd := lw_in 108 (by decide +kernel) rfl
set_option maxRecDepth 20000 in
theorem wF_X3_15 : Cond.fieldLink "StateShares$Marks" 15 "StateShares$Marks" "states" "[I" ∈ lw_gd := lw_in 109 (by decide +kernel) rfl
set_option maxRecDepth 20000 in
theorem wF_X3_18 : Cond.fieldLink "StateShares$Marks" 18 "StateShares$Marks" "kinds" "[I" ∈ lw_gd := lw_in 110 (by decide +kernel) rfl
set_option maxRecDepth 20000 in
theorem wF_X3_21 : Cond.fieldLink "StateShares$Marks" 21 "StateShares$Marks" "sorted" "[I" ∈ lw_gd := lw_in 111 (by decide +kernel) rfl
set_option maxRecDepth 20000 in
theorem wM_X3_24 : Cond.methodLink "StateShares$Marks" 24 (yX3_place) ∈ lw_gd := lw_in 499 (by decide +kernel) rfl
set_option maxRecDepth 20000 in
theorem ws_X3_place : Cond.static (yX3_place) ∈ lw_gd := lw_in 500 (by decide +kernel) rfl
set_option maxRecDepth 20000 in
theorem wc_X3_place : Cond.code yX3_place cX3_place 2 (some .int) ∈ lw_gd := lw_in 501 (by decide +kernel) rfl
set_option maxRecDepth 20000 in
theorem wM_X3_28 : Cond.methodLink "StateShares$Marks" 28 (yX3_judgePlace) ∈ lw_gd := lw_in 454 (by decide +kernel) rfl
set_option maxRecDepth 20000 in
theorem wi_X3_judgePlace : Cond.instanceMethod (yX3_judgePlace) ∈ lw_gd := lw_in 456 (by decide +kernel) rfl
set_option maxRecDepth 20000 in
theorem wS_X3_judgePlace : Cond.selects "StateShares$Marks" (yX3_judgePlace) (yX3_judgePlace) ∈ lw_gd := lw_inS (q := ((yX3_judgePlace), 4)) 10 (by decide +kernel)
set_option maxRecDepth 20000 in
theorem wc_X3_judgePlace : Cond.code yX3_judgePlace cX3_judgePlace 4 none ∈ lw_gd := lw_in 457 (by decide +kernel) rfl
set_option maxRecDepth 20000 in
theorem wM_X3_32 : Cond.methodLink "StateShares$Marks" 32 (yX3_sortMarks) ∈ lw_gd := lw_in 458 (by decide +kernel) rfl
set_option maxRecDepth 20000 in
theorem wi_X3_sortMarks : Cond.instanceMethod (yX3_sortMarks) ∈ lw_gd := lw_in 460 (by decide +kernel) rfl
set_option maxRecDepth 20000 in
theorem wS_X3_sortMarks : Cond.selects "StateShares$Marks" (yX3_sortMarks) (yX3_sortMarks) ∈ lw_gd := lw_inS (q := ((yX3_sortMarks), 4)) 11 (by decide +kernel)
set_option maxRecDepth 20000 in
theorem wc_X3_sortMarks : Cond.code yX3_sortMarks cX3_sortMarks 6 (some .int) ∈ lw_gd := lw_in 461 (by decide +kernel) rfl
set_option maxRecDepth 20000 in
theorem wM_X3_36 : Cond.methodLink "StateShares$Marks" 36 (yX7_judge) ∈ lw_gd := lw_in 462 (by decide +kernel) rfl
set_option maxRecDepth 20000 in
theorem wi_X7_judge : Cond.instanceMethod (yX7_judge) ∈ lw_gd := lw_in 463 (by decide +kernel) rfl
set_option maxRecDepth 20000 in
theorem wS_X7_judge : Cond.selects "StateShares$Rules" (yX7_judge) (yX7_judge) ∈ lw_gd := lw_in 464 (by decide +kernel) rfl
set_option maxRecDepth 20000 in
theorem wI_StateShares_Rules : Cond.initialized "StateShares$Rules" ∈ lw_gd := lw_in 3 (by decide +kernel) rfl
set_option maxRecDepth 20000 in
theorem wc_X7_judge : Cond.code yX7_judge cX7_judge 3 (some .int) ∈ lw_gd := lw_in 465 (by decide +kernel) rfl
set_option maxRecDepth 20000 in
theorem wM_X3_42 : Cond.methodLink "StateShares$Marks" 42 (yX3_stateOf) ∈ lw_gd := lw_in 760 (by decide +kernel) rfl
set_option maxRecDepth 20000 in
theorem wM_X3_45 : Cond.methodLink "StateShares$Marks" 45 (yX3_lastGraded) ∈ lw_gd := lw_in 883 (by decide +kernel) rfl
set_option maxRecDepth 20000 in
theorem wi_X3_lastGraded : Cond.instanceMethod (yX3_lastGraded) ∈ lw_gd := lw_in 885 (by decide +kernel) rfl
set_option maxRecDepth 20000 in
theorem wS_X3_lastGraded : Cond.selects "StateShares$Marks" (yX3_lastGraded) (yX3_lastGraded) ∈ lw_gd := lw_inS (q := ((yX3_lastGraded), 4)) 31 (by decide +kernel)
set_option maxRecDepth 20000 in
theorem wc_X3_lastGraded : Cond.code yX3_lastGraded cX3_lastGraded 3 (some .int) ∈ lw_gd := lw_in 886 (by decide +kernel) rfl
set_option maxRecDepth 20000 in
theorem wM_X3_48 : Cond.methodLink "StateShares$Marks" 48 (yX3_bothSaw) ∈ lw_gd := lw_in 842 (by decide +kernel) rfl
set_option maxRecDepth 20000 in
theorem wi_X3_bothSaw : Cond.instanceMethod (yX3_bothSaw) ∈ lw_gd := lw_in 844 (by decide +kernel) rfl
set_option maxRecDepth 20000 in
theorem wS_X3_bothSaw : Cond.selects "StateShares$Marks" (yX3_bothSaw) (yX3_bothSaw) ∈ lw_gd := lw_inS (q := ((yX3_bothSaw), 4)) 30 (by decide +kernel)
set_option maxRecDepth 20000 in
theorem wc_X3_bothSaw : Cond.code yX3_bothSaw cX3_bothSaw 4 (some .boolean) ∈ lw_gd := lw_in 845 (by decide +kernel) rfl
abbrev M_X3_bothSaw : xM := (yX3_bothSaw, cX3_bothSaw, 4, (some .boolean), { frames := 0, cells := 0, slots := 0, locals := 0 })
abbrev M_X3_firstState : xM := (yX3_firstState, cX3_firstState, 4, (some .int), { frames := 2, cells := 0, slots := 0, locals := 43 })
abbrev M_X3_gap : xM := (yX3_gap, cX3_gap, 7, (some .int), { frames := 3, cells := 0, slots := 0, locals := 65 })
abbrev M_X3_init : xM := (yX3_init, cX3_init, 2, none, { frames := 1, cells := 4, slots := 614, locals := 20 })
abbrev M_X3_judgeAll : xM := (yX3_judgeAll, cX3_judgeAll, 3, none, { frames := 6, cells := 0, slots := 0, locals := 139 })
abbrev M_X3_judgeOne : xM := (yX3_judgeOne, cX3_judgeOne, 4, none, { frames := 6, cells := 0, slots := 0, locals := 139 })
abbrev M_X3_judgePlace : xM := (yX3_judgePlace, cX3_judgePlace, 4, none, { frames := 5, cells := 0, slots := 0, locals := 116 })
abbrev M_X3_lastGraded : xM := (yX3_lastGraded, cX3_lastGraded, 3, (some .int), { frames := 2, cells := 0, slots := 0, locals := 43 })
abbrev M_X3_place : xM := (yX3_place, cX3_place, 2, (some .int), { frames := 0, cells := 0, slots := 0, locals := 0 })
abbrev M_X3_sameByBoth : xM := (yX3_sameByBoth, cX3_sameByBoth, 6, (some .int), { frames := 0, cells := 0, slots := 0, locals := 0 })
abbrev M_X3_see : xM := (yX3_see, cX3_see, 5, none, { frames := 1, cells := 0, slots := 0, locals := 21 })
abbrev M_X3_seenAmongBoth : xM := (yX3_seenAmongBoth, cX3_seenAmongBoth, 6, (some .int), { frames := 1, cells := 0, slots := 0, locals := 23 })
abbrev M_X3_seenByBoth : xM := (yX3_seenByBoth, cX3_seenByBoth, 5, (some .int), { frames := 1, cells := 0, slots := 0, locals := 23 })
abbrev M_X3_setKind : xM := (yX3_setKind, cX3_setKind, 3, none, { frames := 0, cells := 0, slots := 0, locals := 0 })
abbrev M_X3_sortMarks : xM := (yX3_sortMarks, cX3_sortMarks, 6, (some .int), { frames := 0, cells := 0, slots := 0, locals := 0 })
abbrev M_X3_stateOf : xM := (yX3_stateOf, cX3_stateOf, 3, (some .int), { frames := 1, cells := 0, slots := 0, locals := 21 })
abbrev M_X4_countAll : xM := (yX4_countAll, cX4_countAll, 6, none, { frames := 2, cells := 0, slots := 0, locals := 43 })
abbrev M_X4_goal : xM := (yX4_goal, cX4_goal, 7, (some .int), { frames := 1, cells := 0, slots := 0, locals := 22 })
abbrev M_X4_groupAll : xM := (yX4_groupAll, cX4_groupAll, 5, none, { frames := 1, cells := 0, slots := 0, locals := 22 })
abbrev M_X4_inOneGroup : xM := (yX4_inOneGroup, cX4_inOneGroup, 3, (some .boolean), { frames := 0, cells := 0, slots := 0, locals := 0 })
abbrev M_X4_init : xM := (yX4_init, cX4_init, 2, none, { frames := 1, cells := 5, slots := 90, locals := 20 })
abbrev M_X4_joinToGroupBefore : xM := (yX4_joinToGroupBefore, cX4_joinToGroupBefore, 3, none, { frames := 0, cells := 0, slots := 0, locals := 0 })
abbrev M_X4_movesInGroup : xM := (yX4_movesInGroup, cX4_movesInGroup, 6, (some .int), { frames := 0, cells := 0, slots := 0, locals := 0 })
abbrev M_X4_number : xM := (yX4_number, cX4_number, 3, (some .int), { frames := 0, cells := 0, slots := 0, locals := 0 })
abbrev M_X4_renew : xM := (yX4_renew, cX4_renew, 3, (some .boolean), { frames := 3, cells := 0, slots := 0, locals := 68 })
abbrev M_X4_setLeast : xM := (yX4_setLeast, cX4_setLeast, 2, none, { frames := 0, cells := 0, slots := 0, locals := 0 })
abbrev M_X4_setTop : xM := (yX4_setTop, cX4_setTop, 3, none, { frames := 0, cells := 0, slots := 0, locals := 0 })
abbrev M_X4_shareOut : xM := (yX4_shareOut, cX4_shareOut, 5, none, { frames := 1, cells := 0, slots := 0, locals := 25 })
abbrev M_X4_total : xM := (yX4_total, cX4_total, 2, (some .int), { frames := 0, cells := 0, slots := 0, locals := 0 })
abbrev M_X7_judge : xM := (yX7_judge, cX7_judge, 3, (some .int), { frames := 4, cells := 0, slots := 0, locals := 94 })
theorem dX4_init_0 : decode cX4_init 0 = .ok (.aload_n 0, 1) := by decide +kernel
theorem dX4_init_1 : decode cX4_init 1 = .ok (.invokespecial 3, 3) := by decide +kernel
theorem dX4_init_4 : decode cX4_init 4 = .ok (.aload_n 0, 1) := by decide +kernel
theorem dX4_init_5 : decode cX4_init 5 = .ok (.iload_n 1, 1) := by decide +kernel
theorem dX4_init_6 : decode cX4_init 6 = .ok (.putfield 9, 3) := by decide +kernel
theorem dX4_init_9 : decode cX4_init 9 = .ok (.aload_n 0, 1) := by decide +kernel
theorem dX4_init_10 : decode cX4_init 10 = .ok (.bipush 36, 2) := by decide +kernel
theorem dX4_init_12 : decode cX4_init 12 = .ok (.newarray .int, 2) := by decide +kernel
theorem dX4_init_14 : decode cX4_init 14 = .ok (.putfield 15, 3) := by decide +kernel
theorem dX4_init_17 : decode cX4_init 17 = .ok (.aload_n 0, 1) := by decide +kernel
theorem dX4_init_18 : decode cX4_init 18 = .ok (.bipush 6, 2) := by decide +kernel
theorem dX4_init_20 : decode cX4_init 20 = .ok (.newarray .int, 2) := by decide +kernel
theorem dX4_init_22 : decode cX4_init 22 = .ok (.putfield 19, 3) := by decide +kernel
theorem dX4_init_25 : decode cX4_init 25 = .ok (.aload_n 0, 1) := by decide +kernel
theorem dX4_init_26 : decode cX4_init 26 = .ok (.bipush 6, 2) := by decide +kernel
theorem dX4_init_28 : decode cX4_init 28 = .ok (.newarray .int, 2) := by decide +kernel
theorem dX4_init_30 : decode cX4_init 30 = .ok (.putfield 22, 3) := by decide +kernel
theorem dX4_init_33 : decode cX4_init 33 = .ok (.aload_n 0, 1) := by decide +kernel
theorem dX4_init_34 : decode cX4_init 34 = .ok (.bipush 36, 2) := by decide +kernel
theorem dX4_init_36 : decode cX4_init 36 = .ok (.newarray .int, 2) := by decide +kernel
theorem dX4_init_38 : decode cX4_init 38 = .ok (.putfield 25, 3) := by decide +kernel
theorem dX4_init_41 : decode cX4_init 41 = .ok (.aload_n 0, 1) := by decide +kernel
theorem dX4_init_42 : decode cX4_init 42 = .ok (.bipush 6, 2) := by decide +kernel
theorem dX4_init_44 : decode cX4_init 44 = .ok (.newarray .int, 2) := by decide +kernel
theorem dX4_init_46 : decode cX4_init 46 = .ok (.putfield 28, 3) := by decide +kernel
theorem dX4_init_49 : decode cX4_init 49 = .ok (.return_, 1) := by decide +kernel
theorem dX4_setLeast_0 : decode cX4_setLeast 0 = .ok (.aload_n 0, 1) := by decide +kernel
theorem dX4_setLeast_1 : decode cX4_setLeast 1 = .ok (.iload_n 1, 1) := by decide +kernel
theorem dX4_setLeast_2 : decode cX4_setLeast 2 = .ok (.putfield 31, 3) := by decide +kernel
theorem dX4_setLeast_5 : decode cX4_setLeast 5 = .ok (.return_, 1) := by decide +kernel
theorem dX4_number_0 : decode cX4_number 0 = .ok (.aload_n 0, 1) := by decide +kernel
theorem dX4_number_1 : decode cX4_number 1 = .ok (.getfield 15, 3) := by decide +kernel
theorem dX4_number_4 : decode cX4_number 4 = .ok (.iload_n 1, 1) := by decide +kernel
theorem dX4_number_5 : decode cX4_number 5 = .ok (.bipush 6, 2) := by decide +kernel
theorem dX4_number_7 : decode cX4_number 7 = .ok (.imul, 1) := by decide +kernel
theorem dX4_number_8 : decode cX4_number 8 = .ok (.iload_n 2, 1) := by decide +kernel
theorem dX4_number_9 : decode cX4_number 9 = .ok (.iadd, 1) := by decide +kernel
theorem dX4_number_10 : decode cX4_number 10 = .ok (.iaload, 1) := by decide +kernel
theorem dX4_number_11 : decode cX4_number 11 = .ok (.ireturn, 1) := by decide +kernel
theorem dX4_total_0 : decode cX4_total 0 = .ok (.aload_n 0, 1) := by decide +kernel
theorem dX4_total_1 : decode cX4_total 1 = .ok (.getfield 19, 3) := by decide +kernel
theorem dX4_total_4 : decode cX4_total 4 = .ok (.iload_n 1, 1) := by decide +kernel
theorem dX4_total_5 : decode cX4_total 5 = .ok (.iaload, 1) := by decide +kernel
theorem dX4_total_6 : decode cX4_total 6 = .ok (.ireturn, 1) := by decide +kernel
theorem dX4_inOneGroup_0 : decode cX4_inOneGroup 0 = .ok (.aload_n 0, 1) := by decide +kernel
theorem dX4_inOneGroup_1 : decode cX4_inOneGroup 1 = .ok (.getfield 22, 3) := by decide +kernel
theorem dX4_inOneGroup_4 : decode cX4_inOneGroup 4 = .ok (.iload_n 1, 1) := by decide +kernel
theorem dX4_inOneGroup_5 : decode cX4_inOneGroup 5 = .ok (.iaload, 1) := by decide +kernel
theorem dX4_inOneGroup_6 : decode cX4_inOneGroup 6 = .ok (.aload_n 0, 1) := by decide +kernel
theorem dX4_inOneGroup_7 : decode cX4_inOneGroup 7 = .ok (.getfield 22, 3) := by decide +kernel
theorem dX4_inOneGroup_10 : decode cX4_inOneGroup 10 = .ok (.iload_n 2, 1) := by decide +kernel
theorem dX4_inOneGroup_11 : decode cX4_inOneGroup 11 = .ok (.iaload, 1) := by decide +kernel
theorem dX4_inOneGroup_12 : decode cX4_inOneGroup 12 = .ok (.if_icmp .ne 7, 3) := by decide +kernel
theorem dX4_inOneGroup_15 : decode cX4_inOneGroup 15 = .ok (.iconst 1, 1) := by decide +kernel
theorem dX4_inOneGroup_16 : decode cX4_inOneGroup 16 = .ok (.goto 4, 3) := by decide +kernel
theorem dX4_inOneGroup_19 : decode cX4_inOneGroup 19 = .ok (.iconst 0, 1) := by decide +kernel
theorem dX4_inOneGroup_20 : decode cX4_inOneGroup 20 = .ok (.ireturn, 1) := by decide +kernel
theorem dX4_top_0 : decode cX4_top 0 = .ok (.aload_n 0, 1) := by decide +kernel
theorem dX4_top_1 : decode cX4_top 1 = .ok (.getfield 25, 3) := by decide +kernel
theorem dX4_top_4 : decode cX4_top 4 = .ok (.iload_n 1, 1) := by decide +kernel
theorem dX4_top_5 : decode cX4_top 5 = .ok (.bipush 6, 2) := by decide +kernel
theorem dX4_top_7 : decode cX4_top 7 = .ok (.imul, 1) := by decide +kernel
theorem dX4_top_8 : decode cX4_top 8 = .ok (.iload_n 2, 1) := by decide +kernel
theorem dX4_top_9 : decode cX4_top 9 = .ok (.iadd, 1) := by decide +kernel
theorem dX4_top_10 : decode cX4_top 10 = .ok (.iaload, 1) := by decide +kernel
theorem dX4_top_11 : decode cX4_top 11 = .ok (.ireturn, 1) := by decide +kernel
theorem dX4_bottom_0 : decode cX4_bottom 0 = .ok (.aload_n 0, 1) := by decide +kernel
theorem dX4_bottom_1 : decode cX4_bottom 1 = .ok (.getfield 28, 3) := by decide +kernel
theorem dX4_bottom_4 : decode cX4_bottom 4 = .ok (.iload_n 1, 1) := by decide +kernel
theorem dX4_bottom_5 : decode cX4_bottom 5 = .ok (.iaload, 1) := by decide +kernel
theorem dX4_bottom_6 : decode cX4_bottom 6 = .ok (.ireturn, 1) := by decide +kernel
theorem dX4_renew_0 : decode cX4_renew 0 = .ok (.aload_n 0, 1) := by decide +kernel
theorem dX4_renew_1 : decode cX4_renew 1 = .ok (.iconst 0, 1) := by decide +kernel
theorem dX4_renew_2 : decode cX4_renew 2 = .ok (.putfield 34, 3) := by decide +kernel
theorem dX4_renew_5 : decode cX4_renew 5 = .ok (.aload_n 0, 1) := by decide +kernel
theorem dX4_renew_6 : decode cX4_renew 6 = .ok (.aload_n 1, 1) := by decide +kernel
theorem dX4_renew_7 : decode cX4_renew 7 = .ok (.invokevirtual 38, 3) := by decide +kernel
theorem dX4_renew_10 : decode cX4_renew 10 = .ok (.aload_n 0, 1) := by decide +kernel
theorem dX4_renew_11 : decode cX4_renew 11 = .ok (.invokevirtual 42, 3) := by decide +kernel
theorem dX4_renew_14 : decode cX4_renew 14 = .ok (.iconst 0, 1) := by decide +kernel
theorem dX4_renew_15 : decode cX4_renew 15 = .ok (.istore_n 2, 1) := by decide +kernel
theorem dX4_renew_16 : decode cX4_renew 16 = .ok (.iload_n 2, 1) := by decide +kernel
theorem dX4_renew_17 : decode cX4_renew 17 = .ok (.aload_n 0, 1) := by decide +kernel
theorem dX4_renew_18 : decode cX4_renew 18 = .ok (.getfield 9, 3) := by decide +kernel
theorem dX4_renew_21 : decode cX4_renew 21 = .ok (.if_icmp .ge 14, 3) := by decide +kernel
theorem dX4_renew_24 : decode cX4_renew 24 = .ok (.aload_n 0, 1) := by decide +kernel
theorem dX4_renew_25 : decode cX4_renew 25 = .ok (.iload_n 2, 1) := by decide +kernel
theorem dX4_renew_26 : decode cX4_renew 26 = .ok (.invokevirtual 45, 3) := by decide +kernel
theorem dX4_renew_29 : decode cX4_renew 29 = .ok (.iinc 2 1, 3) := by decide +kernel
theorem dX4_renew_32 : decode cX4_renew 32 = .ok (.goto (-16), 3) := by decide +kernel
theorem dX4_renew_35 : decode cX4_renew 35 = .ok (.aload_n 0, 1) := by decide +kernel
theorem dX4_renew_36 : decode cX4_renew 36 = .ok (.getfield 34, 3) := by decide +kernel
theorem dX4_renew_39 : decode cX4_renew 39 = .ok (.ireturn, 1) := by decide +kernel
theorem dX4_countAll_0 : decode cX4_countAll 0 = .ok (.iconst 0, 1) := by decide +kernel
theorem dX4_countAll_1 : decode cX4_countAll 1 = .ok (.istore_n 2, 1) := by decide +kernel
theorem dX4_countAll_2 : decode cX4_countAll 2 = .ok (.iload_n 2, 1) := by decide +kernel
theorem dX4_countAll_3 : decode cX4_countAll 3 = .ok (.aload_n 0, 1) := by decide +kernel
theorem dX4_countAll_4 : decode cX4_countAll 4 = .ok (.getfield 15, 3) := by decide +kernel
theorem dX4_countAll_7 : decode cX4_countAll 7 = .ok (.arraylength, 1) := by decide +kernel
theorem dX4_countAll_8 : decode cX4_countAll 8 = .ok (.if_icmp .ge 16, 3) := by decide +kernel
theorem dX4_countAll_11 : decode cX4_countAll 11 = .ok (.aload_n 0, 1) := by decide +kernel
theorem dX4_countAll_12 : decode cX4_countAll 12 = .ok (.getfield 15, 3) := by decide +kernel
theorem dX4_countAll_15 : decode cX4_countAll 15 = .ok (.iload_n 2, 1) := by decide +kernel
theorem dX4_countAll_16 : decode cX4_countAll 16 = .ok (.iconst 0, 1) := by decide +kernel
theorem dX4_countAll_17 : decode cX4_countAll 17 = .ok (.iastore, 1) := by decide +kernel
theorem dX4_countAll_18 : decode cX4_countAll 18 = .ok (.iinc 2 1, 3) := by decide +kernel
theorem dX4_countAll_21 : decode cX4_countAll 21 = .ok (.goto (-19), 3) := by decide +kernel
theorem dX4_countAll_24 : decode cX4_countAll 24 = .ok (.iconst 0, 1) := by decide +kernel
theorem dX4_countAll_25 : decode cX4_countAll 25 = .ok (.istore_n 2, 1) := by decide +kernel
theorem dX4_countAll_26 : decode cX4_countAll 26 = .ok (.iload_n 2, 1) := by decide +kernel
theorem dX4_countAll_27 : decode cX4_countAll 27 = .ok (.aload_n 0, 1) := by decide +kernel
theorem dX4_countAll_28 : decode cX4_countAll 28 = .ok (.getfield 9, 3) := by decide +kernel
theorem dX4_countAll_31 : decode cX4_countAll 31 = .ok (.if_icmp .ge 16, 3) := by decide +kernel
theorem dX4_countAll_34 : decode cX4_countAll 34 = .ok (.aload_n 0, 1) := by decide +kernel
theorem dX4_countAll_35 : decode cX4_countAll 35 = .ok (.getfield 19, 3) := by decide +kernel
theorem dX4_countAll_38 : decode cX4_countAll 38 = .ok (.iload_n 2, 1) := by decide +kernel
theorem dX4_countAll_39 : decode cX4_countAll 39 = .ok (.iconst 0, 1) := by decide +kernel
theorem dX4_countAll_40 : decode cX4_countAll 40 = .ok (.iastore, 1) := by decide +kernel
theorem dX4_countAll_41 : decode cX4_countAll 41 = .ok (.iinc 2 1, 3) := by decide +kernel
theorem dX4_countAll_44 : decode cX4_countAll 44 = .ok (.goto (-18), 3) := by decide +kernel
theorem dX4_countAll_47 : decode cX4_countAll 47 = .ok (.iconst 0, 1) := by decide +kernel
theorem dX4_countAll_48 : decode cX4_countAll 48 = .ok (.istore_n 2, 1) := by decide +kernel
theorem dX4_countAll_49 : decode cX4_countAll 49 = .ok (.iload_n 2, 1) := by decide +kernel
theorem dX4_countAll_50 : decode cX4_countAll 50 = .ok (.bipush 10, 2) := by decide +kernel
theorem dX4_countAll_52 : decode cX4_countAll 52 = .ok (.if_icmp .ge 83, 3) := by decide +kernel
theorem dX4_countAll_55 : decode cX4_countAll 55 = .ok (.iconst 0, 1) := by decide +kernel
theorem dX4_countAll_56 : decode cX4_countAll 56 = .ok (.istore_n 3, 1) := by decide +kernel
theorem dX4_countAll_57 : decode cX4_countAll 57 = .ok (.iload_n 3, 1) := by decide +kernel
theorem dX4_countAll_58 : decode cX4_countAll 58 = .ok (.iconst 1, 1) := by decide +kernel
theorem dX4_countAll_59 : decode cX4_countAll 59 = .ok (.iadd, 1) := by decide +kernel
theorem dX4_countAll_60 : decode cX4_countAll 60 = .ok (.bipush 12, 2) := by decide +kernel
theorem dX4_countAll_62 : decode cX4_countAll 62 = .ok (.if_icmp .ge 67, 3) := by decide +kernel
theorem dX4_countAll_65 : decode cX4_countAll 65 = .ok (.aload_n 1, 1) := by decide +kernel
theorem dX4_countAll_66 : decode cX4_countAll 66 = .ok (.iload_n 2, 1) := by decide +kernel
theorem dX4_countAll_67 : decode cX4_countAll 67 = .ok (.iload_n 3, 1) := by decide +kernel
theorem dX4_countAll_68 : decode cX4_countAll 68 = .ok (.invokevirtual 49, 3) := by decide +kernel
theorem dX4_countAll_71 : decode cX4_countAll 71 = .ok (.istore 4, 2) := by decide +kernel
theorem dX4_countAll_73 : decode cX4_countAll 73 = .ok (.aload_n 1, 1) := by decide +kernel
theorem dX4_countAll_74 : decode cX4_countAll 74 = .ok (.iload_n 2, 1) := by decide +kernel
theorem dX4_countAll_75 : decode cX4_countAll 75 = .ok (.iload_n 3, 1) := by decide +kernel
theorem dX4_countAll_76 : decode cX4_countAll 76 = .ok (.iconst 1, 1) := by decide +kernel
theorem dX4_countAll_77 : decode cX4_countAll 77 = .ok (.iadd, 1) := by decide +kernel
theorem dX4_countAll_78 : decode cX4_countAll 78 = .ok (.invokevirtual 49, 3) := by decide +kernel
theorem dX4_countAll_81 : decode cX4_countAll 81 = .ok (.istore 5, 2) := by decide +kernel
theorem dX4_countAll_83 : decode cX4_countAll 83 = .ok (.iload 4, 2) := by decide +kernel
theorem dX4_countAll_85 : decode cX4_countAll 85 = .ok (.iconst (-1), 1) := by decide +kernel
theorem dX4_countAll_86 : decode cX4_countAll 86 = .ok (.if_icmp .eq 37, 3) := by decide +kernel
theorem dX4_countAll_89 : decode cX4_countAll 89 = .ok (.iload 5, 2) := by decide +kernel
theorem dX4_countAll_91 : decode cX4_countAll 91 = .ok (.iconst (-1), 1) := by decide +kernel
theorem dX4_countAll_92 : decode cX4_countAll 92 = .ok (.if_icmp .eq 31, 3) := by decide +kernel
theorem dX4_countAll_95 : decode cX4_countAll 95 = .ok (.aload_n 0, 1) := by decide +kernel
theorem dX4_countAll_96 : decode cX4_countAll 96 = .ok (.getfield 15, 3) := by decide +kernel
theorem dX4_countAll_99 : decode cX4_countAll 99 = .ok (.iload 4, 2) := by decide +kernel
theorem dX4_countAll_101 : decode cX4_countAll 101 = .ok (.bipush 6, 2) := by decide +kernel
theorem dX4_countAll_103 : decode cX4_countAll 103 = .ok (.imul, 1) := by decide +kernel
theorem dX4_countAll_104 : decode cX4_countAll 104 = .ok (.iload 5, 2) := by decide +kernel
theorem dX4_countAll_106 : decode cX4_countAll 106 = .ok (.iadd, 1) := by decide +kernel
theorem dX4_countAll_107 : decode cX4_countAll 107 = .ok (.dup2, 1) := by decide +kernel
theorem dX4_countAll_108 : decode cX4_countAll 108 = .ok (.iaload, 1) := by decide +kernel
theorem dX4_countAll_109 : decode cX4_countAll 109 = .ok (.iconst 1, 1) := by decide +kernel
theorem dX4_countAll_110 : decode cX4_countAll 110 = .ok (.iadd, 1) := by decide +kernel
theorem dX4_countAll_111 : decode cX4_countAll 111 = .ok (.iastore, 1) := by decide +kernel
theorem dX4_countAll_112 : decode cX4_countAll 112 = .ok (.aload_n 0, 1) := by decide +kernel
theorem dX4_countAll_113 : decode cX4_countAll 113 = .ok (.getfield 19, 3) := by decide +kernel
theorem dX4_countAll_116 : decode cX4_countAll 116 = .ok (.iload 4, 2) := by decide +kernel
theorem dX4_countAll_118 : decode cX4_countAll 118 = .ok (.dup2, 1) := by decide +kernel
theorem dX4_countAll_119 : decode cX4_countAll 119 = .ok (.iaload, 1) := by decide +kernel
theorem dX4_countAll_120 : decode cX4_countAll 120 = .ok (.iconst 1, 1) := by decide +kernel
theorem dX4_countAll_121 : decode cX4_countAll 121 = .ok (.iadd, 1) := by decide +kernel
theorem dX4_countAll_122 : decode cX4_countAll 122 = .ok (.iastore, 1) := by decide +kernel
theorem dX4_countAll_123 : decode cX4_countAll 123 = .ok (.iinc 3 1, 3) := by decide +kernel
theorem dX4_countAll_126 : decode cX4_countAll 126 = .ok (.goto (-69), 3) := by decide +kernel
theorem dX4_countAll_129 : decode cX4_countAll 129 = .ok (.iinc 2 1, 3) := by decide +kernel
theorem dX4_countAll_132 : decode cX4_countAll 132 = .ok (.goto (-83), 3) := by decide +kernel
theorem dX4_countAll_135 : decode cX4_countAll 135 = .ok (.return_, 1) := by decide +kernel
theorem dX4_groupAll_0 : decode cX4_groupAll 0 = .ok (.iconst 0, 1) := by decide +kernel
theorem dX4_groupAll_1 : decode cX4_groupAll 1 = .ok (.istore_n 1, 1) := by decide +kernel
theorem dX4_groupAll_2 : decode cX4_groupAll 2 = .ok (.iconst 0, 1) := by decide +kernel
theorem dX4_groupAll_3 : decode cX4_groupAll 3 = .ok (.istore_n 2, 1) := by decide +kernel
theorem dX4_groupAll_4 : decode cX4_groupAll 4 = .ok (.iconst 0, 1) := by decide +kernel
theorem dX4_groupAll_5 : decode cX4_groupAll 5 = .ok (.istore_n 3, 1) := by decide +kernel
theorem dX4_groupAll_6 : decode cX4_groupAll 6 = .ok (.iconst 0, 1) := by decide +kernel
theorem dX4_groupAll_7 : decode cX4_groupAll 7 = .ok (.istore 4, 2) := by decide +kernel
theorem dX4_groupAll_9 : decode cX4_groupAll 9 = .ok (.iload 4, 2) := by decide +kernel
theorem dX4_groupAll_11 : decode cX4_groupAll 11 = .ok (.aload_n 0, 1) := by decide +kernel
theorem dX4_groupAll_12 : decode cX4_groupAll 12 = .ok (.getfield 9, 3) := by decide +kernel
theorem dX4_groupAll_15 : decode cX4_groupAll 15 = .ok (.if_icmp .ge 50, 3) := by decide +kernel
theorem dX4_groupAll_18 : decode cX4_groupAll 18 = .ok (.aload_n 0, 1) := by decide +kernel
theorem dX4_groupAll_19 : decode cX4_groupAll 19 = .ok (.getfield 22, 3) := by decide +kernel
theorem dX4_groupAll_22 : decode cX4_groupAll 22 = .ok (.iload 4, 2) := by decide +kernel
theorem dX4_groupAll_24 : decode cX4_groupAll 24 = .ok (.iload_n 1, 1) := by decide +kernel
theorem dX4_groupAll_25 : decode cX4_groupAll 25 = .ok (.iastore, 1) := by decide +kernel
theorem dX4_groupAll_26 : decode cX4_groupAll 26 = .ok (.iload_n 2, 1) := by decide +kernel
theorem dX4_groupAll_27 : decode cX4_groupAll 27 = .ok (.aload_n 0, 1) := by decide +kernel
theorem dX4_groupAll_28 : decode cX4_groupAll 28 = .ok (.getfield 19, 3) := by decide +kernel
theorem dX4_groupAll_31 : decode cX4_groupAll 31 = .ok (.iload 4, 2) := by decide +kernel
theorem dX4_groupAll_33 : decode cX4_groupAll 33 = .ok (.iaload, 1) := by decide +kernel
theorem dX4_groupAll_34 : decode cX4_groupAll 34 = .ok (.iadd, 1) := by decide +kernel
theorem dX4_groupAll_35 : decode cX4_groupAll 35 = .ok (.istore_n 2, 1) := by decide +kernel
theorem dX4_groupAll_36 : decode cX4_groupAll 36 = .ok (.iload_n 2, 1) := by decide +kernel
theorem dX4_groupAll_37 : decode cX4_groupAll 37 = .ok (.aload_n 0, 1) := by decide +kernel
theorem dX4_groupAll_38 : decode cX4_groupAll 38 = .ok (.getfield 31, 3) := by decide +kernel
theorem dX4_groupAll_41 : decode cX4_groupAll 41 = .ok (.if_icmp .ge 7, 3) := by decide +kernel
theorem dX4_groupAll_44 : decode cX4_groupAll 44 = .ok (.iconst 1, 1) := by decide +kernel
theorem dX4_groupAll_45 : decode cX4_groupAll 45 = .ok (.goto 4, 3) := by decide +kernel
theorem dX4_groupAll_48 : decode cX4_groupAll 48 = .ok (.iconst 0, 1) := by decide +kernel
theorem dX4_groupAll_49 : decode cX4_groupAll 49 = .ok (.istore_n 3, 1) := by decide +kernel
theorem dX4_groupAll_50 : decode cX4_groupAll 50 = .ok (.iload_n 3, 1) := by decide +kernel
theorem dX4_groupAll_51 : decode cX4_groupAll 51 = .ok (.ifCond .ne 8, 3) := by decide +kernel
theorem dX4_groupAll_54 : decode cX4_groupAll 54 = .ok (.iinc 1 1, 3) := by decide +kernel
theorem dX4_groupAll_57 : decode cX4_groupAll 57 = .ok (.iconst 0, 1) := by decide +kernel
theorem dX4_groupAll_58 : decode cX4_groupAll 58 = .ok (.istore_n 2, 1) := by decide +kernel
theorem dX4_groupAll_59 : decode cX4_groupAll 59 = .ok (.iinc 4 1, 3) := by decide +kernel
theorem dX4_groupAll_62 : decode cX4_groupAll 62 = .ok (.goto (-53), 3) := by decide +kernel
theorem dX4_groupAll_65 : decode cX4_groupAll 65 = .ok (.iload_n 3, 1) := by decide +kernel
theorem dX4_groupAll_66 : decode cX4_groupAll 66 = .ok (.ifCond .eq 12, 3) := by decide +kernel
theorem dX4_groupAll_69 : decode cX4_groupAll 69 = .ok (.iload_n 1, 1) := by decide +kernel
theorem dX4_groupAll_70 : decode cX4_groupAll 70 = .ok (.ifCond .le 8, 3) := by decide +kernel
theorem dX4_groupAll_73 : decode cX4_groupAll 73 = .ok (.aload_n 0, 1) := by decide +kernel
theorem dX4_groupAll_74 : decode cX4_groupAll 74 = .ok (.iload_n 1, 1) := by decide +kernel
theorem dX4_groupAll_75 : decode cX4_groupAll 75 = .ok (.invokevirtual 55, 3) := by decide +kernel
theorem dX4_groupAll_78 : decode cX4_groupAll 78 = .ok (.return_, 1) := by decide +kernel
theorem dX4_joinToGroupBefore_0 : decode cX4_joinToGroupBefore 0 = .ok (.iconst 0, 1) := by decide +kernel
theorem dX4_joinToGroupBefore_1 : decode cX4_joinToGroupBefore 1 = .ok (.istore_n 2, 1) := by decide +kernel
theorem dX4_joinToGroupBefore_2 : decode cX4_joinToGroupBefore 2 = .ok (.iload_n 2, 1) := by decide +kernel
theorem dX4_joinToGroupBefore_3 : decode cX4_joinToGroupBefore 3 = .ok (.aload_n 0, 1) := by decide +kernel
theorem dX4_joinToGroupBefore_4 : decode cX4_joinToGroupBefore 4 = .ok (.getfield 9, 3) := by decide +kernel
theorem dX4_joinToGroupBefore_7 : decode cX4_joinToGroupBefore 7 = .ok (.if_icmp .ge 28, 3) := by decide +kernel
theorem dX4_joinToGroupBefore_10 : decode cX4_joinToGroupBefore 10 = .ok (.aload_n 0, 1) := by decide +kernel
theorem dX4_joinToGroupBefore_11 : decode cX4_joinToGroupBefore 11 = .ok (.getfield 22, 3) := by decide +kernel
theorem dX4_joinToGroupBefore_14 : decode cX4_joinToGroupBefore 14 = .ok (.iload_n 2, 1) := by decide +kernel
theorem dX4_joinToGroupBefore_15 : decode cX4_joinToGroupBefore 15 = .ok (.iaload, 1) := by decide +kernel
theorem dX4_joinToGroupBefore_16 : decode cX4_joinToGroupBefore 16 = .ok (.iload_n 1, 1) := by decide +kernel
theorem dX4_joinToGroupBefore_17 : decode cX4_joinToGroupBefore 17 = .ok (.if_icmp .ne 12, 3) := by decide +kernel
theorem dX4_joinToGroupBefore_20 : decode cX4_joinToGroupBefore 20 = .ok (.aload_n 0, 1) := by decide +kernel
theorem dX4_joinToGroupBefore_21 : decode cX4_joinToGroupBefore 21 = .ok (.getfield 22, 3) := by decide +kernel
theorem dX4_joinToGroupBefore_24 : decode cX4_joinToGroupBefore 24 = .ok (.iload_n 2, 1) := by decide +kernel
theorem dX4_joinToGroupBefore_25 : decode cX4_joinToGroupBefore 25 = .ok (.iload_n 1, 1) := by decide +kernel
theorem dX4_joinToGroupBefore_26 : decode cX4_joinToGroupBefore 26 = .ok (.iconst 1, 1) := by decide +kernel
theorem dX4_joinToGroupBefore_27 : decode cX4_joinToGroupBefore 27 = .ok (.isub, 1) := by decide +kernel
theorem dX4_joinToGroupBefore_28 : decode cX4_joinToGroupBefore 28 = .ok (.iastore, 1) := by decide +kernel
theorem dX4_joinToGroupBefore_29 : decode cX4_joinToGroupBefore 29 = .ok (.iinc 2 1, 3) := by decide +kernel
theorem dX4_joinToGroupBefore_32 : decode cX4_joinToGroupBefore 32 = .ok (.goto (-30), 3) := by decide +kernel
theorem dX4_joinToGroupBefore_35 : decode cX4_joinToGroupBefore 35 = .ok (.return_, 1) := by decide +kernel
theorem dX4_shareOut_0 : decode cX4_shareOut 0 = .ok (.iconst 0, 1) := by decide +kernel
theorem dX4_shareOut_1 : decode cX4_shareOut 1 = .ok (.istore_n 2, 1) := by decide +kernel
theorem dX4_shareOut_2 : decode cX4_shareOut 2 = .ok (.iconst 0, 1) := by decide +kernel
theorem dX4_shareOut_3 : decode cX4_shareOut 3 = .ok (.istore_n 3, 1) := by decide +kernel
theorem dX4_shareOut_4 : decode cX4_shareOut 4 = .ok (.iload_n 3, 1) := by decide +kernel
theorem dX4_shareOut_5 : decode cX4_shareOut 5 = .ok (.aload_n 0, 1) := by decide +kernel
theorem dX4_shareOut_6 : decode cX4_shareOut 6 = .ok (.getfield 9, 3) := by decide +kernel
theorem dX4_shareOut_9 : decode cX4_shareOut 9 = .ok (.if_icmp .ge 20, 3) := by decide +kernel
theorem dX4_shareOut_12 : decode cX4_shareOut 12 = .ok (.iload_n 2, 1) := by decide +kernel
theorem dX4_shareOut_13 : decode cX4_shareOut 13 = .ok (.aload_n 0, 1) := by decide +kernel
theorem dX4_shareOut_14 : decode cX4_shareOut 14 = .ok (.iload_n 1, 1) := by decide +kernel
theorem dX4_shareOut_15 : decode cX4_shareOut 15 = .ok (.iload_n 3, 1) := by decide +kernel
theorem dX4_shareOut_16 : decode cX4_shareOut 16 = .ok (.iload_n 1, 1) := by decide +kernel
theorem dX4_shareOut_17 : decode cX4_shareOut 17 = .ok (.isub, 1) := by decide +kernel
theorem dX4_shareOut_18 : decode cX4_shareOut 18 = .ok (.invokevirtual 58, 3) := by decide +kernel
theorem dX4_shareOut_21 : decode cX4_shareOut 21 = .ok (.iadd, 1) := by decide +kernel
theorem dX4_shareOut_22 : decode cX4_shareOut 22 = .ok (.istore_n 2, 1) := by decide +kernel
theorem dX4_shareOut_23 : decode cX4_shareOut 23 = .ok (.iinc 3 1, 3) := by decide +kernel
theorem dX4_shareOut_26 : decode cX4_shareOut 26 = .ok (.goto (-22), 3) := by decide +kernel
theorem dX4_shareOut_29 : decode cX4_shareOut 29 = .ok (.iconst 0, 1) := by decide +kernel
theorem dX4_shareOut_30 : decode cX4_shareOut 30 = .ok (.istore_n 3, 1) := by decide +kernel
theorem dX4_shareOut_31 : decode cX4_shareOut 31 = .ok (.iload_n 3, 1) := by decide +kernel
theorem dX4_shareOut_32 : decode cX4_shareOut 32 = .ok (.aload_n 0, 1) := by decide +kernel
theorem dX4_shareOut_33 : decode cX4_shareOut 33 = .ok (.getfield 9, 3) := by decide +kernel
theorem dX4_shareOut_36 : decode cX4_shareOut 36 = .ok (.if_icmp .ge 48, 3) := by decide +kernel
theorem dX4_shareOut_39 : decode cX4_shareOut 39 = .ok (.iload_n 3, 1) := by decide +kernel
theorem dX4_shareOut_40 : decode cX4_shareOut 40 = .ok (.iload_n 1, 1) := by decide +kernel
theorem dX4_shareOut_41 : decode cX4_shareOut 41 = .ok (.if_icmp .ne 7, 3) := by decide +kernel
theorem dX4_shareOut_44 : decode cX4_shareOut 44 = .ok (.iconst 1, 1) := by decide +kernel
theorem dX4_shareOut_45 : decode cX4_shareOut 45 = .ok (.goto 4, 3) := by decide +kernel
theorem dX4_shareOut_48 : decode cX4_shareOut 48 = .ok (.iconst 0, 1) := by decide +kernel
theorem dX4_shareOut_49 : decode cX4_shareOut 49 = .ok (.istore 4, 2) := by decide +kernel
theorem dX4_shareOut_51 : decode cX4_shareOut 51 = .ok (.aload_n 0, 1) := by decide +kernel
theorem dX4_shareOut_52 : decode cX4_shareOut 52 = .ok (.iload_n 1, 1) := by decide +kernel
theorem dX4_shareOut_53 : decode cX4_shareOut 53 = .ok (.bipush 6, 2) := by decide +kernel
theorem dX4_shareOut_55 : decode cX4_shareOut 55 = .ok (.imul, 1) := by decide +kernel
theorem dX4_shareOut_56 : decode cX4_shareOut 56 = .ok (.iload_n 3, 1) := by decide +kernel
theorem dX4_shareOut_57 : decode cX4_shareOut 57 = .ok (.iadd, 1) := by decide +kernel
theorem dX4_shareOut_58 : decode cX4_shareOut 58 = .ok (.iload_n 2, 1) := by decide +kernel
theorem dX4_shareOut_59 : decode cX4_shareOut 59 = .ok (.ifCond .ne 8, 3) := by decide +kernel
theorem dX4_shareOut_62 : decode cX4_shareOut 62 = .ok (.iload 4, 2) := by decide +kernel
theorem dX4_shareOut_64 : decode cX4_shareOut 64 = .ok (.goto 11, 3) := by decide +kernel
theorem dX4_shareOut_67 : decode cX4_shareOut 67 = .ok (.aload_n 0, 1) := by decide +kernel
theorem dX4_shareOut_68 : decode cX4_shareOut 68 = .ok (.iload_n 1, 1) := by decide +kernel
theorem dX4_shareOut_69 : decode cX4_shareOut 69 = .ok (.iload_n 3, 1) := by decide +kernel
theorem dX4_shareOut_70 : decode cX4_shareOut 70 = .ok (.iload_n 1, 1) := by decide +kernel
theorem dX4_shareOut_71 : decode cX4_shareOut 71 = .ok (.isub, 1) := by decide +kernel
theorem dX4_shareOut_72 : decode cX4_shareOut 72 = .ok (.invokevirtual 58, 3) := by decide +kernel
theorem dX4_shareOut_75 : decode cX4_shareOut 75 = .ok (.invokevirtual 61, 3) := by decide +kernel
theorem dX4_shareOut_78 : decode cX4_shareOut 78 = .ok (.iinc 3 1, 3) := by decide +kernel
theorem dX4_shareOut_81 : decode cX4_shareOut 81 = .ok (.goto (-50), 3) := by decide +kernel
theorem dX4_shareOut_84 : decode cX4_shareOut 84 = .ok (.aload_n 0, 1) := by decide +kernel
theorem dX4_shareOut_85 : decode cX4_shareOut 85 = .ok (.getfield 28, 3) := by decide +kernel
theorem dX4_shareOut_88 : decode cX4_shareOut 88 = .ok (.iload_n 1, 1) := by decide +kernel
theorem dX4_shareOut_89 : decode cX4_shareOut 89 = .ok (.iconst 1, 1) := by decide +kernel
theorem dX4_shareOut_90 : decode cX4_shareOut 90 = .ok (.iload_n 2, 1) := by decide +kernel
theorem dX4_shareOut_91 : decode cX4_shareOut 91 = .ok (.invokestatic 65, 3) := by decide +kernel
theorem dX4_shareOut_94 : decode cX4_shareOut 94 = .ok (.iastore, 1) := by decide +kernel
theorem dX4_shareOut_95 : decode cX4_shareOut 95 = .ok (.return_, 1) := by decide +kernel
theorem dX4_setTop_0 : decode cX4_setTop 0 = .ok (.aload_n 0, 1) := by decide +kernel
theorem dX4_setTop_1 : decode cX4_setTop 1 = .ok (.getfield 25, 3) := by decide +kernel
theorem dX4_setTop_4 : decode cX4_setTop 4 = .ok (.iload_n 1, 1) := by decide +kernel
theorem dX4_setTop_5 : decode cX4_setTop 5 = .ok (.iaload, 1) := by decide +kernel
theorem dX4_setTop_6 : decode cX4_setTop 6 = .ok (.iload_n 2, 1) := by decide +kernel
theorem dX4_setTop_7 : decode cX4_setTop 7 = .ok (.if_icmp .eq 15, 3) := by decide +kernel
theorem dX4_setTop_10 : decode cX4_setTop 10 = .ok (.aload_n 0, 1) := by decide +kernel
theorem dX4_setTop_11 : decode cX4_setTop 11 = .ok (.getfield 25, 3) := by decide +kernel
theorem dX4_setTop_14 : decode cX4_setTop 14 = .ok (.iload_n 1, 1) := by decide +kernel
theorem dX4_setTop_15 : decode cX4_setTop 15 = .ok (.iload_n 2, 1) := by decide +kernel
theorem dX4_setTop_16 : decode cX4_setTop 16 = .ok (.iastore, 1) := by decide +kernel
theorem dX4_setTop_17 : decode cX4_setTop 17 = .ok (.aload_n 0, 1) := by decide +kernel
theorem dX4_setTop_18 : decode cX4_setTop 18 = .ok (.iconst 1, 1) := by decide +kernel
theorem dX4_setTop_19 : decode cX4_setTop 19 = .ok (.putfield 34, 3) := by decide +kernel
theorem dX4_setTop_22 : decode cX4_setTop 22 = .ok (.return_, 1) := by decide +kernel
theorem dX4_movesInGroup_0 : decode cX4_movesInGroup 0 = .ok (.iconst 0, 1) := by decide +kernel
theorem dX4_movesInGroup_1 : decode cX4_movesInGroup 1 = .ok (.istore_n 3, 1) := by decide +kernel
theorem dX4_movesInGroup_2 : decode cX4_movesInGroup 2 = .ok (.iconst 0, 1) := by decide +kernel
theorem dX4_movesInGroup_3 : decode cX4_movesInGroup 3 = .ok (.istore 4, 2) := by decide +kernel
theorem dX4_movesInGroup_5 : decode cX4_movesInGroup 5 = .ok (.iload 4, 2) := by decide +kernel
theorem dX4_movesInGroup_7 : decode cX4_movesInGroup 7 = .ok (.aload_n 0, 1) := by decide +kernel
theorem dX4_movesInGroup_8 : decode cX4_movesInGroup 8 = .ok (.getfield 9, 3) := by decide +kernel
theorem dX4_movesInGroup_11 : decode cX4_movesInGroup 11 = .ok (.if_icmp .ge 61, 3) := by decide +kernel
theorem dX4_movesInGroup_14 : decode cX4_movesInGroup 14 = .ok (.iload 4, 2) := by decide +kernel
theorem dX4_movesInGroup_16 : decode cX4_movesInGroup 16 = .ok (.iload_n 2, 1) := by decide +kernel
theorem dX4_movesInGroup_17 : decode cX4_movesInGroup 17 = .ok (.iadd, 1) := by decide +kernel
theorem dX4_movesInGroup_18 : decode cX4_movesInGroup 18 = .ok (.istore 5, 2) := by decide +kernel
theorem dX4_movesInGroup_20 : decode cX4_movesInGroup 20 = .ok (.aload_n 0, 1) := by decide +kernel
theorem dX4_movesInGroup_21 : decode cX4_movesInGroup 21 = .ok (.getfield 22, 3) := by decide +kernel
theorem dX4_movesInGroup_24 : decode cX4_movesInGroup 24 = .ok (.iload 4, 2) := by decide +kernel
theorem dX4_movesInGroup_26 : decode cX4_movesInGroup 26 = .ok (.iaload, 1) := by decide +kernel
theorem dX4_movesInGroup_27 : decode cX4_movesInGroup 27 = .ok (.aload_n 0, 1) := by decide +kernel
theorem dX4_movesInGroup_28 : decode cX4_movesInGroup 28 = .ok (.getfield 22, 3) := by decide +kernel
theorem dX4_movesInGroup_31 : decode cX4_movesInGroup 31 = .ok (.iload_n 1, 1) := by decide +kernel
theorem dX4_movesInGroup_32 : decode cX4_movesInGroup 32 = .ok (.iaload, 1) := by decide +kernel
theorem dX4_movesInGroup_33 : decode cX4_movesInGroup 33 = .ok (.if_icmp .ne 33, 3) := by decide +kernel
theorem dX4_movesInGroup_36 : decode cX4_movesInGroup 36 = .ok (.iload 5, 2) := by decide +kernel
theorem dX4_movesInGroup_38 : decode cX4_movesInGroup 38 = .ok (.ifCond .lt 28, 3) := by decide +kernel
theorem dX4_movesInGroup_41 : decode cX4_movesInGroup 41 = .ok (.iload 5, 2) := by decide +kernel
theorem dX4_movesInGroup_43 : decode cX4_movesInGroup 43 = .ok (.aload_n 0, 1) := by decide +kernel
theorem dX4_movesInGroup_44 : decode cX4_movesInGroup 44 = .ok (.getfield 9, 3) := by decide +kernel
theorem dX4_movesInGroup_47 : decode cX4_movesInGroup 47 = .ok (.if_icmp .ge 19, 3) := by decide +kernel
theorem dX4_movesInGroup_50 : decode cX4_movesInGroup 50 = .ok (.iload_n 3, 1) := by decide +kernel
theorem dX4_movesInGroup_51 : decode cX4_movesInGroup 51 = .ok (.aload_n 0, 1) := by decide +kernel
theorem dX4_movesInGroup_52 : decode cX4_movesInGroup 52 = .ok (.getfield 15, 3) := by decide +kernel
theorem dX4_movesInGroup_55 : decode cX4_movesInGroup 55 = .ok (.iload 4, 2) := by decide +kernel
theorem dX4_movesInGroup_57 : decode cX4_movesInGroup 57 = .ok (.bipush 6, 2) := by decide +kernel
theorem dX4_movesInGroup_59 : decode cX4_movesInGroup 59 = .ok (.imul, 1) := by decide +kernel
theorem dX4_movesInGroup_60 : decode cX4_movesInGroup 60 = .ok (.iload 5, 2) := by decide +kernel
theorem dX4_movesInGroup_62 : decode cX4_movesInGroup 62 = .ok (.iadd, 1) := by decide +kernel
theorem dX4_movesInGroup_63 : decode cX4_movesInGroup 63 = .ok (.iaload, 1) := by decide +kernel
theorem dX4_movesInGroup_64 : decode cX4_movesInGroup 64 = .ok (.iadd, 1) := by decide +kernel
theorem dX4_movesInGroup_65 : decode cX4_movesInGroup 65 = .ok (.istore_n 3, 1) := by decide +kernel
theorem dX4_movesInGroup_66 : decode cX4_movesInGroup 66 = .ok (.iinc 4 1, 3) := by decide +kernel
theorem dX4_movesInGroup_69 : decode cX4_movesInGroup 69 = .ok (.goto (-64), 3) := by decide +kernel
theorem dX4_movesInGroup_72 : decode cX4_movesInGroup 72 = .ok (.iload_n 3, 1) := by decide +kernel
theorem dX4_movesInGroup_73 : decode cX4_movesInGroup 73 = .ok (.ireturn, 1) := by decide +kernel
theorem dX4_goal_0 : decode cX4_goal 0 = .ok (.lconst 0, 1) := by decide +kernel
theorem dX4_goal_1 : decode cX4_goal 1 = .ok (.lstore 4, 2) := by decide +kernel
theorem dX4_goal_3 : decode cX4_goal 3 = .ok (.iconst 0, 1) := by decide +kernel
theorem dX4_goal_4 : decode cX4_goal 4 = .ok (.istore 6, 2) := by decide +kernel
theorem dX4_goal_6 : decode cX4_goal 6 = .ok (.iload 6, 2) := by decide +kernel
theorem dX4_goal_8 : decode cX4_goal 8 = .ok (.aload_n 0, 1) := by decide +kernel
theorem dX4_goal_9 : decode cX4_goal 9 = .ok (.getfield 9, 3) := by decide +kernel
theorem dX4_goal_12 : decode cX4_goal 12 = .ok (.if_icmp .ge 42, 3) := by decide +kernel
theorem dX4_goal_15 : decode cX4_goal 15 = .ok (.lload 4, 2) := by decide +kernel
theorem dX4_goal_17 : decode cX4_goal 17 = .ok (.aload_n 0, 1) := by decide +kernel
theorem dX4_goal_18 : decode cX4_goal 18 = .ok (.iload_n 1, 1) := by decide +kernel
theorem dX4_goal_19 : decode cX4_goal 19 = .ok (.iload 6, 2) := by decide +kernel
theorem dX4_goal_21 : decode cX4_goal 21 = .ok (.invokevirtual 70, 3) := by decide +kernel
theorem dX4_goal_24 : decode cX4_goal 24 = .ok (.i2l, 1) := by decide +kernel
theorem dX4_goal_25 : decode cX4_goal 25 = .ok (.ladd, 1) := by decide +kernel
theorem dX4_goal_26 : decode cX4_goal 26 = .ok (.lstore 4, 2) := by decide +kernel
theorem dX4_goal_28 : decode cX4_goal 28 = .ok (.lload 4, 2) := by decide +kernel
theorem dX4_goal_30 : decode cX4_goal 30 = .ok (.bipush 31, 2) := by decide +kernel
theorem dX4_goal_32 : decode cX4_goal 32 = .ok (.lshl, 1) := by decide +kernel
theorem dX4_goal_33 : decode cX4_goal 33 = .ok (.lload_n 2, 1) := by decide +kernel
theorem dX4_goal_34 : decode cX4_goal 34 = .ok (.aload_n 0, 1) := by decide +kernel
theorem dX4_goal_35 : decode cX4_goal 35 = .ok (.iload_n 1, 1) := by decide +kernel
theorem dX4_goal_36 : decode cX4_goal 36 = .ok (.invokevirtual 73, 3) := by decide +kernel
theorem dX4_goal_39 : decode cX4_goal 39 = .ok (.i2l, 1) := by decide +kernel
theorem dX4_goal_40 : decode cX4_goal 40 = .ok (.lmul, 1) := by decide +kernel
theorem dX4_goal_41 : decode cX4_goal 41 = .ok (.lcmp, 1) := by decide +kernel
theorem dX4_goal_42 : decode cX4_goal 42 = .ok (.ifCond .le 6, 3) := by decide +kernel
theorem dX4_goal_45 : decode cX4_goal 45 = .ok (.iload 6, 2) := by decide +kernel
theorem dX4_goal_47 : decode cX4_goal 47 = .ok (.ireturn, 1) := by decide +kernel
theorem dX4_goal_48 : decode cX4_goal 48 = .ok (.iinc 6 1, 3) := by decide +kernel
theorem dX4_goal_51 : decode cX4_goal 51 = .ok (.goto (-45), 3) := by decide +kernel
theorem dX4_goal_54 : decode cX4_goal 54 = .ok (.aload_n 0, 1) := by decide +kernel
theorem dX4_goal_55 : decode cX4_goal 55 = .ok (.getfield 9, 3) := by decide +kernel
theorem dX4_goal_58 : decode cX4_goal 58 = .ok (.iconst 1, 1) := by decide +kernel
theorem dX4_goal_59 : decode cX4_goal 59 = .ok (.isub, 1) := by decide +kernel
theorem dX4_goal_60 : decode cX4_goal 60 = .ok (.ireturn, 1) := by decide +kernel
theorem dX3_init_0 : decode cX3_init 0 = .ok (.aload_n 0, 1) := by decide +kernel
theorem dX3_init_1 : decode cX3_init 1 = .ok (.invokespecial 3, 3) := by decide +kernel
theorem dX3_init_4 : decode cX3_init 4 = .ok (.aload_n 0, 1) := by decide +kernel
theorem dX3_init_5 : decode cX3_init 5 = .ok (.sipush 480, 3) := by decide +kernel
theorem dX3_init_8 : decode cX3_init 8 = .ok (.newarray .int, 2) := by decide +kernel
theorem dX3_init_10 : decode cX3_init 10 = .ok (.putfield 11, 3) := by decide +kernel
theorem dX3_init_13 : decode cX3_init 13 = .ok (.aload_n 0, 1) := by decide +kernel
theorem dX3_init_14 : decode cX3_init 14 = .ok (.bipush 120, 2) := by decide +kernel
theorem dX3_init_16 : decode cX3_init 16 = .ok (.newarray .int, 2) := by decide +kernel
theorem dX3_init_18 : decode cX3_init 18 = .ok (.putfield 15, 3) := by decide +kernel
theorem dX3_init_21 : decode cX3_init 21 = .ok (.aload_n 0, 1) := by decide +kernel
theorem dX3_init_22 : decode cX3_init 22 = .ok (.bipush 10, 2) := by decide +kernel
theorem dX3_init_24 : decode cX3_init 24 = .ok (.newarray .int, 2) := by decide +kernel
theorem dX3_init_26 : decode cX3_init 26 = .ok (.putfield 18, 3) := by decide +kernel
theorem dX3_init_29 : decode cX3_init 29 = .ok (.aload_n 0, 1) := by decide +kernel
theorem dX3_init_30 : decode cX3_init 30 = .ok (.iconst 4, 1) := by decide +kernel
theorem dX3_init_31 : decode cX3_init 31 = .ok (.newarray .int, 2) := by decide +kernel
theorem dX3_init_33 : decode cX3_init 33 = .ok (.putfield 21, 3) := by decide +kernel
theorem dX3_init_36 : decode cX3_init 36 = .ok (.iconst 0, 1) := by decide +kernel
theorem dX3_init_37 : decode cX3_init 37 = .ok (.istore_n 1, 1) := by decide +kernel
theorem dX3_init_38 : decode cX3_init 38 = .ok (.iload_n 1, 1) := by decide +kernel
theorem dX3_init_39 : decode cX3_init 39 = .ok (.aload_n 0, 1) := by decide +kernel
theorem dX3_init_40 : decode cX3_init 40 = .ok (.getfield 11, 3) := by decide +kernel
theorem dX3_init_43 : decode cX3_init 43 = .ok (.arraylength, 1) := by decide +kernel
theorem dX3_init_44 : decode cX3_init 44 = .ok (.if_icmp .ge 16, 3) := by decide +kernel
theorem dX3_init_47 : decode cX3_init 47 = .ok (.aload_n 0, 1) := by decide +kernel
theorem dX3_init_48 : decode cX3_init 48 = .ok (.getfield 11, 3) := by decide +kernel
theorem dX3_init_51 : decode cX3_init 51 = .ok (.iload_n 1, 1) := by decide +kernel
theorem dX3_init_52 : decode cX3_init 52 = .ok (.iconst (-1), 1) := by decide +kernel
theorem dX3_init_53 : decode cX3_init 53 = .ok (.iastore, 1) := by decide +kernel
theorem dX3_init_54 : decode cX3_init 54 = .ok (.iinc 1 1, 3) := by decide +kernel
theorem dX3_init_57 : decode cX3_init 57 = .ok (.goto (-19), 3) := by decide +kernel
theorem dX3_init_60 : decode cX3_init 60 = .ok (.iconst 0, 1) := by decide +kernel
theorem dX3_init_61 : decode cX3_init 61 = .ok (.istore_n 1, 1) := by decide +kernel
theorem dX3_init_62 : decode cX3_init 62 = .ok (.iload_n 1, 1) := by decide +kernel
theorem dX3_init_63 : decode cX3_init 63 = .ok (.aload_n 0, 1) := by decide +kernel
theorem dX3_init_64 : decode cX3_init 64 = .ok (.getfield 15, 3) := by decide +kernel
theorem dX3_init_67 : decode cX3_init 67 = .ok (.arraylength, 1) := by decide +kernel
theorem dX3_init_68 : decode cX3_init 68 = .ok (.if_icmp .ge 16, 3) := by decide +kernel
theorem dX3_init_71 : decode cX3_init 71 = .ok (.aload_n 0, 1) := by decide +kernel
theorem dX3_init_72 : decode cX3_init 72 = .ok (.getfield 15, 3) := by decide +kernel
theorem dX3_init_75 : decode cX3_init 75 = .ok (.iload_n 1, 1) := by decide +kernel
theorem dX3_init_76 : decode cX3_init 76 = .ok (.iconst (-1), 1) := by decide +kernel
theorem dX3_init_77 : decode cX3_init 77 = .ok (.iastore, 1) := by decide +kernel
theorem dX3_init_78 : decode cX3_init 78 = .ok (.iinc 1 1, 3) := by decide +kernel
theorem dX3_init_81 : decode cX3_init 81 = .ok (.goto (-19), 3) := by decide +kernel
theorem dX3_init_84 : decode cX3_init 84 = .ok (.return_, 1) := by decide +kernel
theorem dX3_place_0 : decode cX3_place 0 = .ok (.iload_n 0, 1) := by decide +kernel
theorem dX3_place_1 : decode cX3_place 1 = .ok (.bipush 12, 2) := by decide +kernel
theorem dX3_place_3 : decode cX3_place 3 = .ok (.imul, 1) := by decide +kernel
theorem dX3_place_4 : decode cX3_place 4 = .ok (.iload_n 1, 1) := by decide +kernel
theorem dX3_place_5 : decode cX3_place 5 = .ok (.iadd, 1) := by decide +kernel
theorem dX3_place_6 : decode cX3_place 6 = .ok (.ireturn, 1) := by decide +kernel
theorem dX3_see_0 : decode cX3_see 0 = .ok (.aload_n 0, 1) := by decide +kernel
theorem dX3_see_1 : decode cX3_see 1 = .ok (.getfield 11, 3) := by decide +kernel
theorem dX3_see_4 : decode cX3_see 4 = .ok (.iload_n 1, 1) := by decide +kernel
theorem dX3_see_5 : decode cX3_see 5 = .ok (.iload_n 2, 1) := by decide +kernel
theorem dX3_see_6 : decode cX3_see 6 = .ok (.invokestatic 24, 3) := by decide +kernel
theorem dX3_see_9 : decode cX3_see 9 = .ok (.iconst 4, 1) := by decide +kernel
theorem dX3_see_10 : decode cX3_see 10 = .ok (.imul, 1) := by decide +kernel
theorem dX3_see_11 : decode cX3_see 11 = .ok (.iload_n 3, 1) := by decide +kernel
theorem dX3_see_12 : decode cX3_see 12 = .ok (.iadd, 1) := by decide +kernel
theorem dX3_see_13 : decode cX3_see 13 = .ok (.iload 4, 2) := by decide +kernel
theorem dX3_see_15 : decode cX3_see 15 = .ok (.iastore, 1) := by decide +kernel
theorem dX3_see_16 : decode cX3_see 16 = .ok (.return_, 1) := by decide +kernel
theorem dX3_setKind_0 : decode cX3_setKind 0 = .ok (.aload_n 0, 1) := by decide +kernel
theorem dX3_setKind_1 : decode cX3_setKind 1 = .ok (.getfield 18, 3) := by decide +kernel
theorem dX3_setKind_4 : decode cX3_setKind 4 = .ok (.iload_n 1, 1) := by decide +kernel
theorem dX3_setKind_5 : decode cX3_setKind 5 = .ok (.iload_n 2, 1) := by decide +kernel
theorem dX3_setKind_6 : decode cX3_setKind 6 = .ok (.iastore, 1) := by decide +kernel
theorem dX3_setKind_7 : decode cX3_setKind 7 = .ok (.return_, 1) := by decide +kernel
theorem dX3_stateOf_0 : decode cX3_stateOf 0 = .ok (.aload_n 0, 1) := by decide +kernel
theorem dX3_stateOf_1 : decode cX3_stateOf 1 = .ok (.getfield 15, 3) := by decide +kernel
theorem dX3_stateOf_4 : decode cX3_stateOf 4 = .ok (.iload_n 1, 1) := by decide +kernel
theorem dX3_stateOf_5 : decode cX3_stateOf 5 = .ok (.iload_n 2, 1) := by decide +kernel
theorem dX3_stateOf_6 : decode cX3_stateOf 6 = .ok (.invokestatic 24, 3) := by decide +kernel
theorem dX3_stateOf_9 : decode cX3_stateOf 9 = .ok (.iaload, 1) := by decide +kernel
theorem dX3_stateOf_10 : decode cX3_stateOf 10 = .ok (.ireturn, 1) := by decide +kernel
theorem dX3_judgeOne_0 : decode cX3_judgeOne 0 = .ok (.aload_n 0, 1) := by decide +kernel
theorem dX3_judgeOne_1 : decode cX3_judgeOne 1 = .ok (.iload_n 1, 1) := by decide +kernel
theorem dX3_judgeOne_2 : decode cX3_judgeOne 2 = .ok (.iload_n 2, 1) := by decide +kernel
theorem dX3_judgeOne_3 : decode cX3_judgeOne 3 = .ok (.invokestatic 24, 3) := by decide +kernel
theorem dX3_judgeOne_6 : decode cX3_judgeOne 6 = .ok (.aload_n 3, 1) := by decide +kernel
theorem dX3_judgeOne_7 : decode cX3_judgeOne 7 = .ok (.invokevirtual 28, 3) := by decide +kernel
theorem dX3_judgeOne_10 : decode cX3_judgeOne 10 = .ok (.return_, 1) := by decide +kernel
theorem dX3_judgeAll_0 : decode cX3_judgeAll 0 = .ok (.iconst 0, 1) := by decide +kernel
theorem dX3_judgeAll_1 : decode cX3_judgeAll 1 = .ok (.istore_n 2, 1) := by decide +kernel
theorem dX3_judgeAll_2 : decode cX3_judgeAll 2 = .ok (.iload_n 2, 1) := by decide +kernel
theorem dX3_judgeAll_3 : decode cX3_judgeAll 3 = .ok (.bipush 120, 2) := by decide +kernel
theorem dX3_judgeAll_5 : decode cX3_judgeAll 5 = .ok (.if_icmp .ge 15, 3) := by decide +kernel
theorem dX3_judgeAll_8 : decode cX3_judgeAll 8 = .ok (.aload_n 0, 1) := by decide +kernel
theorem dX3_judgeAll_9 : decode cX3_judgeAll 9 = .ok (.iload_n 2, 1) := by decide +kernel
theorem dX3_judgeAll_10 : decode cX3_judgeAll 10 = .ok (.aload_n 1, 1) := by decide +kernel
theorem dX3_judgeAll_11 : decode cX3_judgeAll 11 = .ok (.invokevirtual 28, 3) := by decide +kernel
theorem dX3_judgeAll_14 : decode cX3_judgeAll 14 = .ok (.iinc 2 1, 3) := by decide +kernel
theorem dX3_judgeAll_17 : decode cX3_judgeAll 17 = .ok (.goto (-15), 3) := by decide +kernel
theorem dX3_judgeAll_20 : decode cX3_judgeAll 20 = .ok (.return_, 1) := by decide +kernel
theorem dX3_judgePlace_0 : decode cX3_judgePlace 0 = .ok (.aload_n 0, 1) := by decide +kernel
theorem dX3_judgePlace_1 : decode cX3_judgePlace 1 = .ok (.iload_n 1, 1) := by decide +kernel
theorem dX3_judgePlace_2 : decode cX3_judgePlace 2 = .ok (.invokevirtual 32, 3) := by decide +kernel
theorem dX3_judgePlace_5 : decode cX3_judgePlace 5 = .ok (.istore_n 3, 1) := by decide +kernel
theorem dX3_judgePlace_6 : decode cX3_judgePlace 6 = .ok (.aload_n 0, 1) := by decide +kernel
theorem dX3_judgePlace_7 : decode cX3_judgePlace 7 = .ok (.getfield 15, 3) := by decide +kernel
theorem dX3_judgePlace_10 : decode cX3_judgePlace 10 = .ok (.iload_n 1, 1) := by decide +kernel
theorem dX3_judgePlace_11 : decode cX3_judgePlace 11 = .ok (.iload_n 3, 1) := by decide +kernel
theorem dX3_judgePlace_12 : decode cX3_judgePlace 12 = .ok (.ifCond .ne 7, 3) := by decide +kernel
theorem dX3_judgePlace_15 : decode cX3_judgePlace 15 = .ok (.iconst (-1), 1) := by decide +kernel
theorem dX3_judgePlace_16 : decode cX3_judgePlace 16 = .ok (.goto 12, 3) := by decide +kernel
theorem dX3_judgePlace_19 : decode cX3_judgePlace 19 = .ok (.aload_n 2, 1) := by decide +kernel
theorem dX3_judgePlace_20 : decode cX3_judgePlace 20 = .ok (.aload_n 0, 1) := by decide +kernel
theorem dX3_judgePlace_21 : decode cX3_judgePlace 21 = .ok (.getfield 21, 3) := by decide +kernel
theorem dX3_judgePlace_24 : decode cX3_judgePlace 24 = .ok (.iload_n 3, 1) := by decide +kernel
theorem dX3_judgePlace_25 : decode cX3_judgePlace 25 = .ok (.invokevirtual 36, 3) := by decide +kernel
theorem dX3_judgePlace_28 : decode cX3_judgePlace 28 = .ok (.iastore, 1) := by decide +kernel
theorem dX3_judgePlace_29 : decode cX3_judgePlace 29 = .ok (.return_, 1) := by decide +kernel
theorem dX3_sortMarks_0 : decode cX3_sortMarks 0 = .ok (.iconst 0, 1) := by decide +kernel
theorem dX3_sortMarks_1 : decode cX3_sortMarks 1 = .ok (.istore_n 2, 1) := by decide +kernel
theorem dX3_sortMarks_2 : decode cX3_sortMarks 2 = .ok (.iconst 0, 1) := by decide +kernel
theorem dX3_sortMarks_3 : decode cX3_sortMarks 3 = .ok (.istore_n 3, 1) := by decide +kernel
theorem dX3_sortMarks_4 : decode cX3_sortMarks 4 = .ok (.iload_n 3, 1) := by decide +kernel
theorem dX3_sortMarks_5 : decode cX3_sortMarks 5 = .ok (.iconst 4, 1) := by decide +kernel
theorem dX3_sortMarks_6 : decode cX3_sortMarks 6 = .ok (.if_icmp .ge 83, 3) := by decide +kernel
theorem dX3_sortMarks_9 : decode cX3_sortMarks 9 = .ok (.aload_n 0, 1) := by decide +kernel
theorem dX3_sortMarks_10 : decode cX3_sortMarks 10 = .ok (.getfield 11, 3) := by decide +kernel
theorem dX3_sortMarks_13 : decode cX3_sortMarks 13 = .ok (.iload_n 1, 1) := by decide +kernel
theorem dX3_sortMarks_14 : decode cX3_sortMarks 14 = .ok (.iconst 4, 1) := by decide +kernel
theorem dX3_sortMarks_15 : decode cX3_sortMarks 15 = .ok (.imul, 1) := by decide +kernel
theorem dX3_sortMarks_16 : decode cX3_sortMarks 16 = .ok (.iload_n 3, 1) := by decide +kernel
theorem dX3_sortMarks_17 : decode cX3_sortMarks 17 = .ok (.iadd, 1) := by decide +kernel
theorem dX3_sortMarks_18 : decode cX3_sortMarks 18 = .ok (.iaload, 1) := by decide +kernel
theorem dX3_sortMarks_19 : decode cX3_sortMarks 19 = .ok (.istore 4, 2) := by decide +kernel
theorem dX3_sortMarks_21 : decode cX3_sortMarks 21 = .ok (.iload 4, 2) := by decide +kernel
theorem dX3_sortMarks_23 : decode cX3_sortMarks 23 = .ok (.iconst (-1), 1) := by decide +kernel
theorem dX3_sortMarks_24 : decode cX3_sortMarks 24 = .ok (.if_icmp .eq 59, 3) := by decide +kernel
theorem dX3_sortMarks_27 : decode cX3_sortMarks 27 = .ok (.iload_n 2, 1) := by decide +kernel
theorem dX3_sortMarks_28 : decode cX3_sortMarks 28 = .ok (.istore 5, 2) := by decide +kernel
theorem dX3_sortMarks_30 : decode cX3_sortMarks 30 = .ok (.iload 5, 2) := by decide +kernel
theorem dX3_sortMarks_32 : decode cX3_sortMarks 32 = .ok (.ifCond .le 39, 3) := by decide +kernel
theorem dX3_sortMarks_35 : decode cX3_sortMarks 35 = .ok (.aload_n 0, 1) := by decide +kernel
theorem dX3_sortMarks_36 : decode cX3_sortMarks 36 = .ok (.getfield 21, 3) := by decide +kernel
theorem dX3_sortMarks_39 : decode cX3_sortMarks 39 = .ok (.iload 5, 2) := by decide +kernel
theorem dX3_sortMarks_41 : decode cX3_sortMarks 41 = .ok (.iconst 1, 1) := by decide +kernel
theorem dX3_sortMarks_42 : decode cX3_sortMarks 42 = .ok (.isub, 1) := by decide +kernel
theorem dX3_sortMarks_43 : decode cX3_sortMarks 43 = .ok (.iaload, 1) := by decide +kernel
theorem dX3_sortMarks_44 : decode cX3_sortMarks 44 = .ok (.iload 4, 2) := by decide +kernel
theorem dX3_sortMarks_46 : decode cX3_sortMarks 46 = .ok (.if_icmp .le 25, 3) := by decide +kernel
theorem dX3_sortMarks_49 : decode cX3_sortMarks 49 = .ok (.aload_n 0, 1) := by decide +kernel
theorem dX3_sortMarks_50 : decode cX3_sortMarks 50 = .ok (.getfield 21, 3) := by decide +kernel
theorem dX3_sortMarks_53 : decode cX3_sortMarks 53 = .ok (.iload 5, 2) := by decide +kernel
theorem dX3_sortMarks_55 : decode cX3_sortMarks 55 = .ok (.aload_n 0, 1) := by decide +kernel
theorem dX3_sortMarks_56 : decode cX3_sortMarks 56 = .ok (.getfield 21, 3) := by decide +kernel
theorem dX3_sortMarks_59 : decode cX3_sortMarks 59 = .ok (.iload 5, 2) := by decide +kernel
theorem dX3_sortMarks_61 : decode cX3_sortMarks 61 = .ok (.iconst 1, 1) := by decide +kernel
theorem dX3_sortMarks_62 : decode cX3_sortMarks 62 = .ok (.isub, 1) := by decide +kernel
theorem dX3_sortMarks_63 : decode cX3_sortMarks 63 = .ok (.iaload, 1) := by decide +kernel
theorem dX3_sortMarks_64 : decode cX3_sortMarks 64 = .ok (.iastore, 1) := by decide +kernel
theorem dX3_sortMarks_65 : decode cX3_sortMarks 65 = .ok (.iinc 5 (-1), 3) := by decide +kernel
theorem dX3_sortMarks_68 : decode cX3_sortMarks 68 = .ok (.goto (-38), 3) := by decide +kernel
theorem dX3_sortMarks_71 : decode cX3_sortMarks 71 = .ok (.aload_n 0, 1) := by decide +kernel
theorem dX3_sortMarks_72 : decode cX3_sortMarks 72 = .ok (.getfield 21, 3) := by decide +kernel
theorem dX3_sortMarks_75 : decode cX3_sortMarks 75 = .ok (.iload 5, 2) := by decide +kernel
theorem dX3_sortMarks_77 : decode cX3_sortMarks 77 = .ok (.iload 4, 2) := by decide +kernel
theorem dX3_sortMarks_79 : decode cX3_sortMarks 79 = .ok (.iastore, 1) := by decide +kernel
theorem dX3_sortMarks_80 : decode cX3_sortMarks 80 = .ok (.iinc 2 1, 3) := by decide +kernel
theorem dX3_sortMarks_83 : decode cX3_sortMarks 83 = .ok (.iinc 3 1, 3) := by decide +kernel
theorem dX3_sortMarks_86 : decode cX3_sortMarks 86 = .ok (.goto (-82), 3) := by decide +kernel
theorem dX3_sortMarks_89 : decode cX3_sortMarks 89 = .ok (.iload_n 2, 1) := by decide +kernel
theorem dX3_sortMarks_90 : decode cX3_sortMarks 90 = .ok (.ireturn, 1) := by decide +kernel
theorem dX3_firstState_0 : decode cX3_firstState 0 = .ok (.aload_n 0, 1) := by decide +kernel
theorem dX3_firstState_1 : decode cX3_firstState 1 = .ok (.iload_n 1, 1) := by decide +kernel
theorem dX3_firstState_2 : decode cX3_firstState 2 = .ok (.iconst 0, 1) := by decide +kernel
theorem dX3_firstState_3 : decode cX3_firstState 3 = .ok (.invokevirtual 42, 3) := by decide +kernel
theorem dX3_firstState_6 : decode cX3_firstState 6 = .ok (.istore_n 2, 1) := by decide +kernel
theorem dX3_firstState_7 : decode cX3_firstState 7 = .ok (.iload_n 2, 1) := by decide +kernel
theorem dX3_firstState_8 : decode cX3_firstState 8 = .ok (.iconst (-1), 1) := by decide +kernel
theorem dX3_firstState_9 : decode cX3_firstState 9 = .ok (.if_icmp .eq 5, 3) := by decide +kernel
theorem dX3_firstState_12 : decode cX3_firstState 12 = .ok (.iload_n 2, 1) := by decide +kernel
theorem dX3_firstState_13 : decode cX3_firstState 13 = .ok (.ireturn, 1) := by decide +kernel
theorem dX3_firstState_14 : decode cX3_firstState 14 = .ok (.iconst 0, 1) := by decide +kernel
theorem dX3_firstState_15 : decode cX3_firstState 15 = .ok (.istore_n 3, 1) := by decide +kernel
theorem dX3_firstState_16 : decode cX3_firstState 16 = .ok (.iload_n 3, 1) := by decide +kernel
theorem dX3_firstState_17 : decode cX3_firstState 17 = .ok (.bipush 10, 2) := by decide +kernel
theorem dX3_firstState_19 : decode cX3_firstState 19 = .ok (.if_icmp .ge 41, 3) := by decide +kernel
theorem dX3_firstState_22 : decode cX3_firstState 22 = .ok (.aload_n 0, 1) := by decide +kernel
theorem dX3_firstState_23 : decode cX3_firstState 23 = .ok (.getfield 18, 3) := by decide +kernel
theorem dX3_firstState_26 : decode cX3_firstState 26 = .ok (.iload_n 3, 1) := by decide +kernel
theorem dX3_firstState_27 : decode cX3_firstState 27 = .ok (.iaload, 1) := by decide +kernel
theorem dX3_firstState_28 : decode cX3_firstState 28 = .ok (.aload_n 0, 1) := by decide +kernel
theorem dX3_firstState_29 : decode cX3_firstState 29 = .ok (.getfield 18, 3) := by decide +kernel
theorem dX3_firstState_32 : decode cX3_firstState 32 = .ok (.iload_n 1, 1) := by decide +kernel
theorem dX3_firstState_33 : decode cX3_firstState 33 = .ok (.iaload, 1) := by decide +kernel
theorem dX3_firstState_34 : decode cX3_firstState 34 = .ok (.if_icmp .ne 20, 3) := by decide +kernel
theorem dX3_firstState_37 : decode cX3_firstState 37 = .ok (.aload_n 0, 1) := by decide +kernel
theorem dX3_firstState_38 : decode cX3_firstState 38 = .ok (.iload_n 3, 1) := by decide +kernel
theorem dX3_firstState_39 : decode cX3_firstState 39 = .ok (.iconst 0, 1) := by decide +kernel
theorem dX3_firstState_40 : decode cX3_firstState 40 = .ok (.invokevirtual 42, 3) := by decide +kernel
theorem dX3_firstState_43 : decode cX3_firstState 43 = .ok (.iconst (-1), 1) := by decide +kernel
theorem dX3_firstState_44 : decode cX3_firstState 44 = .ok (.if_icmp .eq 10, 3) := by decide +kernel
theorem dX3_firstState_47 : decode cX3_firstState 47 = .ok (.aload_n 0, 1) := by decide +kernel
theorem dX3_firstState_48 : decode cX3_firstState 48 = .ok (.iload_n 3, 1) := by decide +kernel
theorem dX3_firstState_49 : decode cX3_firstState 49 = .ok (.iconst 0, 1) := by decide +kernel
theorem dX3_firstState_50 : decode cX3_firstState 50 = .ok (.invokevirtual 42, 3) := by decide +kernel
theorem dX3_firstState_53 : decode cX3_firstState 53 = .ok (.ireturn, 1) := by decide +kernel
theorem dX3_firstState_54 : decode cX3_firstState 54 = .ok (.iinc 3 1, 3) := by decide +kernel
theorem dX3_firstState_57 : decode cX3_firstState 57 = .ok (.goto (-41), 3) := by decide +kernel
theorem dX3_firstState_60 : decode cX3_firstState 60 = .ok (.iconst 0, 1) := by decide +kernel
theorem dX3_firstState_61 : decode cX3_firstState 61 = .ok (.ireturn, 1) := by decide +kernel
theorem dX3_gap_0 : decode cX3_gap 0 = .ok (.iload_n 1, 1) := by decide +kernel
theorem dX3_gap_1 : decode cX3_gap 1 = .ok (.istore_n 2, 1) := by decide +kernel
theorem dX3_gap_2 : decode cX3_gap 2 = .ok (.iconst 0, 1) := by decide +kernel
theorem dX3_gap_3 : decode cX3_gap 3 = .ok (.istore_n 3, 1) := by decide +kernel
theorem dX3_gap_4 : decode cX3_gap 4 = .ok (.iload_n 3, 1) := by decide +kernel
theorem dX3_gap_5 : decode cX3_gap 5 = .ok (.bipush 10, 2) := by decide +kernel
theorem dX3_gap_7 : decode cX3_gap 7 = .ok (.if_icmp .ge 72, 3) := by decide +kernel
theorem dX3_gap_10 : decode cX3_gap 10 = .ok (.aload_n 0, 1) := by decide +kernel
theorem dX3_gap_11 : decode cX3_gap 11 = .ok (.iload_n 3, 1) := by decide +kernel
theorem dX3_gap_12 : decode cX3_gap 12 = .ok (.invokevirtual 45, 3) := by decide +kernel
theorem dX3_gap_15 : decode cX3_gap 15 = .ok (.istore 4, 2) := by decide +kernel
theorem dX3_gap_17 : decode cX3_gap 17 = .ok (.iconst 0, 1) := by decide +kernel
theorem dX3_gap_18 : decode cX3_gap 18 = .ok (.istore 5, 2) := by decide +kernel
theorem dX3_gap_20 : decode cX3_gap 20 = .ok (.iconst 0, 1) := by decide +kernel
theorem dX3_gap_21 : decode cX3_gap 21 = .ok (.istore 6, 2) := by decide +kernel
theorem dX3_gap_23 : decode cX3_gap 23 = .ok (.iload 6, 2) := by decide +kernel
theorem dX3_gap_25 : decode cX3_gap 25 = .ok (.iload 4, 2) := by decide +kernel
theorem dX3_gap_27 : decode cX3_gap 27 = .ok (.if_icmp .ge 46, 3) := by decide +kernel
theorem dX3_gap_30 : decode cX3_gap 30 = .ok (.aload_n 0, 1) := by decide +kernel
theorem dX3_gap_31 : decode cX3_gap 31 = .ok (.iload_n 3, 1) := by decide +kernel
theorem dX3_gap_32 : decode cX3_gap 32 = .ok (.iload 6, 2) := by decide +kernel
theorem dX3_gap_34 : decode cX3_gap 34 = .ok (.invokevirtual 42, 3) := by decide +kernel
theorem dX3_gap_37 : decode cX3_gap 37 = .ok (.iconst (-1), 1) := by decide +kernel
theorem dX3_gap_38 : decode cX3_gap 38 = .ok (.if_icmp .eq 9, 3) := by decide +kernel
theorem dX3_gap_41 : decode cX3_gap 41 = .ok (.iconst 1, 1) := by decide +kernel
theorem dX3_gap_42 : decode cX3_gap 42 = .ok (.istore 5, 2) := by decide +kernel
theorem dX3_gap_44 : decode cX3_gap 44 = .ok (.goto 23, 3) := by decide +kernel
theorem dX3_gap_47 : decode cX3_gap 47 = .ok (.iload 5, 2) := by decide +kernel
theorem dX3_gap_49 : decode cX3_gap 49 = .ok (.ifCond .eq 18, 3) := by decide +kernel
theorem dX3_gap_52 : decode cX3_gap 52 = .ok (.iload_n 2, 1) := by decide +kernel
theorem dX3_gap_53 : decode cX3_gap 53 = .ok (.ifCond .ne 11, 3) := by decide +kernel
theorem dX3_gap_56 : decode cX3_gap 56 = .ok (.bipush 16, 2) := by decide +kernel
theorem dX3_gap_58 : decode cX3_gap 58 = .ok (.iload_n 3, 1) := by decide +kernel
theorem dX3_gap_59 : decode cX3_gap 59 = .ok (.imul, 1) := by decide +kernel
theorem dX3_gap_60 : decode cX3_gap 60 = .ok (.iload 6, 2) := by decide +kernel
theorem dX3_gap_62 : decode cX3_gap 62 = .ok (.iadd, 1) := by decide +kernel
theorem dX3_gap_63 : decode cX3_gap 63 = .ok (.ireturn, 1) := by decide +kernel
theorem dX3_gap_64 : decode cX3_gap 64 = .ok (.iinc 2 (-1), 3) := by decide +kernel
theorem dX3_gap_67 : decode cX3_gap 67 = .ok (.iinc 6 1, 3) := by decide +kernel
theorem dX3_gap_70 : decode cX3_gap 70 = .ok (.goto (-47), 3) := by decide +kernel
theorem dX3_gap_73 : decode cX3_gap 73 = .ok (.iinc 3 1, 3) := by decide +kernel
theorem dX3_gap_76 : decode cX3_gap 76 = .ok (.goto (-72), 3) := by decide +kernel
theorem dX3_gap_79 : decode cX3_gap 79 = .ok (.iconst (-1), 1) := by decide +kernel
theorem dX3_gap_80 : decode cX3_gap 80 = .ok (.ireturn, 1) := by decide +kernel
theorem dX3_lastGraded_0 : decode cX3_lastGraded 0 = .ok (.bipush 11, 2) := by decide +kernel
theorem dX3_lastGraded_2 : decode cX3_lastGraded 2 = .ok (.istore_n 2, 1) := by decide +kernel
theorem dX3_lastGraded_3 : decode cX3_lastGraded 3 = .ok (.iload_n 2, 1) := by decide +kernel
theorem dX3_lastGraded_4 : decode cX3_lastGraded 4 = .ok (.ifCond .lt 21, 3) := by decide +kernel
theorem dX3_lastGraded_7 : decode cX3_lastGraded 7 = .ok (.aload_n 0, 1) := by decide +kernel
theorem dX3_lastGraded_8 : decode cX3_lastGraded 8 = .ok (.iload_n 1, 1) := by decide +kernel
theorem dX3_lastGraded_9 : decode cX3_lastGraded 9 = .ok (.iload_n 2, 1) := by decide +kernel
theorem dX3_lastGraded_10 : decode cX3_lastGraded 10 = .ok (.invokevirtual 42, 3) := by decide +kernel
theorem dX3_lastGraded_13 : decode cX3_lastGraded 13 = .ok (.iconst (-1), 1) := by decide +kernel
theorem dX3_lastGraded_14 : decode cX3_lastGraded 14 = .ok (.if_icmp .eq 5, 3) := by decide +kernel
theorem dX3_lastGraded_17 : decode cX3_lastGraded 17 = .ok (.iload_n 2, 1) := by decide +kernel
theorem dX3_lastGraded_18 : decode cX3_lastGraded 18 = .ok (.ireturn, 1) := by decide +kernel
theorem dX3_lastGraded_19 : decode cX3_lastGraded 19 = .ok (.iinc 2 (-1), 3) := by decide +kernel
theorem dX3_lastGraded_22 : decode cX3_lastGraded 22 = .ok (.goto (-19), 3) := by decide +kernel
theorem dX3_lastGraded_25 : decode cX3_lastGraded 25 = .ok (.iconst (-1), 1) := by decide +kernel
theorem dX3_lastGraded_26 : decode cX3_lastGraded 26 = .ok (.ireturn, 1) := by decide +kernel
theorem dX3_bothSaw_0 : decode cX3_bothSaw 0 = .ok (.aload_n 0, 1) := by decide +kernel
theorem dX3_bothSaw_1 : decode cX3_bothSaw 1 = .ok (.getfield 11, 3) := by decide +kernel
theorem dX3_bothSaw_4 : decode cX3_bothSaw 4 = .ok (.iload_n 1, 1) := by decide +kernel
theorem dX3_bothSaw_5 : decode cX3_bothSaw 5 = .ok (.iconst 4, 1) := by decide +kernel
theorem dX3_bothSaw_6 : decode cX3_bothSaw 6 = .ok (.imul, 1) := by decide +kernel
theorem dX3_bothSaw_7 : decode cX3_bothSaw 7 = .ok (.iload_n 2, 1) := by decide +kernel
theorem dX3_bothSaw_8 : decode cX3_bothSaw 8 = .ok (.iadd, 1) := by decide +kernel
theorem dX3_bothSaw_9 : decode cX3_bothSaw 9 = .ok (.iaload, 1) := by decide +kernel
theorem dX3_bothSaw_10 : decode cX3_bothSaw 10 = .ok (.iconst (-1), 1) := by decide +kernel
theorem dX3_bothSaw_11 : decode cX3_bothSaw 11 = .ok (.if_icmp .eq 21, 3) := by decide +kernel
theorem dX3_bothSaw_14 : decode cX3_bothSaw 14 = .ok (.aload_n 0, 1) := by decide +kernel
theorem dX3_bothSaw_15 : decode cX3_bothSaw 15 = .ok (.getfield 11, 3) := by decide +kernel
theorem dX3_bothSaw_18 : decode cX3_bothSaw 18 = .ok (.iload_n 1, 1) := by decide +kernel
theorem dX3_bothSaw_19 : decode cX3_bothSaw 19 = .ok (.iconst 4, 1) := by decide +kernel
theorem dX3_bothSaw_20 : decode cX3_bothSaw 20 = .ok (.imul, 1) := by decide +kernel
theorem dX3_bothSaw_21 : decode cX3_bothSaw 21 = .ok (.iload_n 3, 1) := by decide +kernel
theorem dX3_bothSaw_22 : decode cX3_bothSaw 22 = .ok (.iadd, 1) := by decide +kernel
theorem dX3_bothSaw_23 : decode cX3_bothSaw 23 = .ok (.iaload, 1) := by decide +kernel
theorem dX3_bothSaw_24 : decode cX3_bothSaw 24 = .ok (.iconst (-1), 1) := by decide +kernel
theorem dX3_bothSaw_25 : decode cX3_bothSaw 25 = .ok (.if_icmp .eq 7, 3) := by decide +kernel
theorem dX3_bothSaw_28 : decode cX3_bothSaw 28 = .ok (.iconst 1, 1) := by decide +kernel
theorem dX3_bothSaw_29 : decode cX3_bothSaw 29 = .ok (.goto 4, 3) := by decide +kernel
theorem dX3_bothSaw_32 : decode cX3_bothSaw 32 = .ok (.iconst 0, 1) := by decide +kernel
theorem dX3_bothSaw_33 : decode cX3_bothSaw 33 = .ok (.ireturn, 1) := by decide +kernel
theorem dX3_seenByBoth_0 : decode cX3_seenByBoth 0 = .ok (.iconst 0, 1) := by decide +kernel
theorem dX3_seenByBoth_1 : decode cX3_seenByBoth 1 = .ok (.istore_n 3, 1) := by decide +kernel
theorem dX3_seenByBoth_2 : decode cX3_seenByBoth 2 = .ok (.iconst 0, 1) := by decide +kernel
theorem dX3_seenByBoth_3 : decode cX3_seenByBoth 3 = .ok (.istore 4, 2) := by decide +kernel
theorem dX3_seenByBoth_5 : decode cX3_seenByBoth 5 = .ok (.iload 4, 2) := by decide +kernel
theorem dX3_seenByBoth_7 : decode cX3_seenByBoth 7 = .ok (.bipush 120, 2) := by decide +kernel
theorem dX3_seenByBoth_9 : decode cX3_seenByBoth 9 = .ok (.if_icmp .ge 23, 3) := by decide +kernel
theorem dX3_seenByBoth_12 : decode cX3_seenByBoth 12 = .ok (.aload_n 0, 1) := by decide +kernel
theorem dX3_seenByBoth_13 : decode cX3_seenByBoth 13 = .ok (.iload 4, 2) := by decide +kernel
theorem dX3_seenByBoth_15 : decode cX3_seenByBoth 15 = .ok (.iload_n 1, 1) := by decide +kernel
theorem dX3_seenByBoth_16 : decode cX3_seenByBoth 16 = .ok (.iload_n 2, 1) := by decide +kernel
theorem dX3_seenByBoth_17 : decode cX3_seenByBoth 17 = .ok (.invokevirtual 48, 3) := by decide +kernel
theorem dX3_seenByBoth_20 : decode cX3_seenByBoth 20 = .ok (.ifCond .eq 6, 3) := by decide +kernel
theorem dX3_seenByBoth_23 : decode cX3_seenByBoth 23 = .ok (.iinc 3 1, 3) := by decide +kernel
theorem dX3_seenByBoth_26 : decode cX3_seenByBoth 26 = .ok (.iinc 4 1, 3) := by decide +kernel
theorem dX3_seenByBoth_29 : decode cX3_seenByBoth 29 = .ok (.goto (-24), 3) := by decide +kernel
theorem dX3_seenByBoth_32 : decode cX3_seenByBoth 32 = .ok (.iload_n 3, 1) := by decide +kernel
theorem dX3_seenByBoth_33 : decode cX3_seenByBoth 33 = .ok (.ireturn, 1) := by decide +kernel
theorem dX3_seenAmongBoth_0 : decode cX3_seenAmongBoth 0 = .ok (.iconst 0, 1) := by decide +kernel
theorem dX3_seenAmongBoth_1 : decode cX3_seenAmongBoth 1 = .ok (.istore 4, 2) := by decide +kernel
theorem dX3_seenAmongBoth_3 : decode cX3_seenAmongBoth 3 = .ok (.iconst 0, 1) := by decide +kernel
theorem dX3_seenAmongBoth_4 : decode cX3_seenAmongBoth 4 = .ok (.istore 5, 2) := by decide +kernel
theorem dX3_seenAmongBoth_6 : decode cX3_seenAmongBoth 6 = .ok (.iload 5, 2) := by decide +kernel
theorem dX3_seenAmongBoth_8 : decode cX3_seenAmongBoth 8 = .ok (.bipush 120, 2) := by decide +kernel
theorem dX3_seenAmongBoth_10 : decode cX3_seenAmongBoth 10 = .ok (.if_icmp .ge 38, 3) := by decide +kernel
theorem dX3_seenAmongBoth_13 : decode cX3_seenAmongBoth 13 = .ok (.aload_n 0, 1) := by decide +kernel
theorem dX3_seenAmongBoth_14 : decode cX3_seenAmongBoth 14 = .ok (.iload 5, 2) := by decide +kernel
theorem dX3_seenAmongBoth_16 : decode cX3_seenAmongBoth 16 = .ok (.iload_n 1, 1) := by decide +kernel
theorem dX3_seenAmongBoth_17 : decode cX3_seenAmongBoth 17 = .ok (.iload_n 2, 1) := by decide +kernel
theorem dX3_seenAmongBoth_18 : decode cX3_seenAmongBoth 18 = .ok (.invokevirtual 48, 3) := by decide +kernel
theorem dX3_seenAmongBoth_21 : decode cX3_seenAmongBoth 21 = .ok (.ifCond .eq 21, 3) := by decide +kernel
theorem dX3_seenAmongBoth_24 : decode cX3_seenAmongBoth 24 = .ok (.aload_n 0, 1) := by decide +kernel
theorem dX3_seenAmongBoth_25 : decode cX3_seenAmongBoth 25 = .ok (.getfield 11, 3) := by decide +kernel
theorem dX3_seenAmongBoth_28 : decode cX3_seenAmongBoth 28 = .ok (.iload 5, 2) := by decide +kernel
theorem dX3_seenAmongBoth_30 : decode cX3_seenAmongBoth 30 = .ok (.iconst 4, 1) := by decide +kernel
theorem dX3_seenAmongBoth_31 : decode cX3_seenAmongBoth 31 = .ok (.imul, 1) := by decide +kernel
theorem dX3_seenAmongBoth_32 : decode cX3_seenAmongBoth 32 = .ok (.iload_n 1, 1) := by decide +kernel
theorem dX3_seenAmongBoth_33 : decode cX3_seenAmongBoth 33 = .ok (.iadd, 1) := by decide +kernel
theorem dX3_seenAmongBoth_34 : decode cX3_seenAmongBoth 34 = .ok (.iaload, 1) := by decide +kernel
theorem dX3_seenAmongBoth_35 : decode cX3_seenAmongBoth 35 = .ok (.iload_n 3, 1) := by decide +kernel
theorem dX3_seenAmongBoth_36 : decode cX3_seenAmongBoth 36 = .ok (.if_icmp .ne 6, 3) := by decide +kernel
theorem dX3_seenAmongBoth_39 : decode cX3_seenAmongBoth 39 = .ok (.iinc 4 1, 3) := by decide +kernel
theorem dX3_seenAmongBoth_42 : decode cX3_seenAmongBoth 42 = .ok (.iinc 5 1, 3) := by decide +kernel
theorem dX3_seenAmongBoth_45 : decode cX3_seenAmongBoth 45 = .ok (.goto (-39), 3) := by decide +kernel
theorem dX3_seenAmongBoth_48 : decode cX3_seenAmongBoth 48 = .ok (.iload 4, 2) := by decide +kernel
theorem dX3_seenAmongBoth_50 : decode cX3_seenAmongBoth 50 = .ok (.ireturn, 1) := by decide +kernel
theorem dX3_sameByBoth_0 : decode cX3_sameByBoth 0 = .ok (.iconst 0, 1) := by decide +kernel
theorem dX3_sameByBoth_1 : decode cX3_sameByBoth 1 = .ok (.istore 4, 2) := by decide +kernel
theorem dX3_sameByBoth_3 : decode cX3_sameByBoth 3 = .ok (.iconst 0, 1) := by decide +kernel
theorem dX3_sameByBoth_4 : decode cX3_sameByBoth 4 = .ok (.istore 5, 2) := by decide +kernel
theorem dX3_sameByBoth_6 : decode cX3_sameByBoth 6 = .ok (.iload 5, 2) := by decide +kernel
theorem dX3_sameByBoth_8 : decode cX3_sameByBoth 8 = .ok (.bipush 120, 2) := by decide +kernel
theorem dX3_sameByBoth_10 : decode cX3_sameByBoth 10 = .ok (.if_icmp .ge 42, 3) := by decide +kernel
theorem dX3_sameByBoth_13 : decode cX3_sameByBoth 13 = .ok (.aload_n 0, 1) := by decide +kernel
theorem dX3_sameByBoth_14 : decode cX3_sameByBoth 14 = .ok (.getfield 11, 3) := by decide +kernel
theorem dX3_sameByBoth_17 : decode cX3_sameByBoth 17 = .ok (.iload 5, 2) := by decide +kernel
theorem dX3_sameByBoth_19 : decode cX3_sameByBoth 19 = .ok (.iconst 4, 1) := by decide +kernel
theorem dX3_sameByBoth_20 : decode cX3_sameByBoth 20 = .ok (.imul, 1) := by decide +kernel
theorem dX3_sameByBoth_21 : decode cX3_sameByBoth 21 = .ok (.iload_n 1, 1) := by decide +kernel
theorem dX3_sameByBoth_22 : decode cX3_sameByBoth 22 = .ok (.iadd, 1) := by decide +kernel
theorem dX3_sameByBoth_23 : decode cX3_sameByBoth 23 = .ok (.iaload, 1) := by decide +kernel
theorem dX3_sameByBoth_24 : decode cX3_sameByBoth 24 = .ok (.iload_n 3, 1) := by decide +kernel
theorem dX3_sameByBoth_25 : decode cX3_sameByBoth 25 = .ok (.if_icmp .ne 21, 3) := by decide +kernel
theorem dX3_sameByBoth_28 : decode cX3_sameByBoth 28 = .ok (.aload_n 0, 1) := by decide +kernel
theorem dX3_sameByBoth_29 : decode cX3_sameByBoth 29 = .ok (.getfield 11, 3) := by decide +kernel
theorem dX3_sameByBoth_32 : decode cX3_sameByBoth 32 = .ok (.iload 5, 2) := by decide +kernel
theorem dX3_sameByBoth_34 : decode cX3_sameByBoth 34 = .ok (.iconst 4, 1) := by decide +kernel
theorem dX3_sameByBoth_35 : decode cX3_sameByBoth 35 = .ok (.imul, 1) := by decide +kernel
theorem dX3_sameByBoth_36 : decode cX3_sameByBoth 36 = .ok (.iload_n 2, 1) := by decide +kernel
theorem dX3_sameByBoth_37 : decode cX3_sameByBoth 37 = .ok (.iadd, 1) := by decide +kernel
theorem dX3_sameByBoth_38 : decode cX3_sameByBoth 38 = .ok (.iaload, 1) := by decide +kernel
theorem dX3_sameByBoth_39 : decode cX3_sameByBoth 39 = .ok (.iload_n 3, 1) := by decide +kernel
theorem dX3_sameByBoth_40 : decode cX3_sameByBoth 40 = .ok (.if_icmp .ne 6, 3) := by decide +kernel
theorem dX3_sameByBoth_43 : decode cX3_sameByBoth 43 = .ok (.iinc 4 1, 3) := by decide +kernel
theorem dX3_sameByBoth_46 : decode cX3_sameByBoth 46 = .ok (.iinc 5 1, 3) := by decide +kernel
theorem dX3_sameByBoth_49 : decode cX3_sameByBoth 49 = .ok (.goto (-43), 3) := by decide +kernel
theorem dX3_sameByBoth_52 : decode cX3_sameByBoth 52 = .ok (.iload 4, 2) := by decide +kernel
theorem dX3_sameByBoth_54 : decode cX3_sameByBoth 54 = .ok (.ireturn, 1) := by decide +kernel
set_option maxRecDepth 20000 in
theorem v_X4_init_0 {g : xG} {post : xPost} {h : xHp} {nx : Nat} {x0 : Nat} {x1 : Nat} (V : (h x0 = some (xo 5 [.int (nI 0), .null, .null, .null, .null, .null, .int (nI 0), .int (nI 0)]) ∧ (x0 ≠ nx ∧ (x0 ≠ (nx + 1) ∧ (x0 ≠ ((nx + 1) + 1) ∧ (x0 ≠ (((nx + 1) + 1) + 1) ∧ (x0 ≠ ((((nx + 1) + 1) + 1) + 1) ∧ (post none (xup (xup (xup (xup (xup (xup (xup (xup (xup (xup (xup h x0 (xo 5 [.int (nI x1), .null, .null, .null, .null, .null, .int (nI 0), .int (nI 0)])) nx (xna 36 (fun _ => 0))) x0 (xo 5 [.int (nI x1), .ref nx, .null, .null, .null, .null, .int (nI 0), .int (nI 0)])) (nx + 1) (xna 6 (fun _ => 0))) x0 (xo 5 [.int (nI x1), .ref nx, .ref (nx + 1), .null, .null, .null, .int (nI 0), .int (nI 0)])) ((nx + 1) + 1) (xna 6 (fun _ => 0))) x0 (xo 5 [.int (nI x1), .ref nx, .ref (nx + 1), .ref ((nx + 1) + 1), .null, .null, .int (nI 0), .int (nI 0)])) (((nx + 1) + 1) + 1) (xna 36 (fun _ => 0))) x0 (xo 5 [.int (nI x1), .ref nx, .ref (nx + 1), .ref ((nx + 1) + 1), .ref (((nx + 1) + 1) + 1), .null, .int (nI 0), .int (nI 0)])) ((((nx + 1) + 1) + 1) + 1) (xna 6 (fun _ => 0))) x0 (xo 5 [.int (nI x1), .ref nx, .ref (nx + 1), .ref ((nx + 1) + 1), .ref (((nx + 1) + 1) + 1), .ref ((((nx + 1) + 1) + 1) + 1), .int (nI 0), .int (nI 0)])) (((((nx + 1) + 1) + 1) + 1) + 1))))))))) : Blk g M_X4_init post 0 [(0, .ref x0), (1, .int (nI x1))] [] h nx 0 0 := by
  refine r_aload_n 0 dX4_init_0 rfl rfl ?_
  refine r_oinit wM_X4_3 wi_java_lang_Object__init____V wc_java_lang_Object__init____V dX4_init_1 (by decide) (Nat.le_of_ble_eq_true rfl) ?_
  refine r_aload_n 0 dX4_init_4 rfl rfl ?_
  refine r_iload_n 1 dX4_init_5 rfl rfl ?_
  obtain ⟨q1, V⟩ := V
  refine r_putF (ci := 5) (kf := 0) (T := TX4) rfl in_X4 tyX4_ok nmX4 (by decide) wF_X4_9 rfl rfl rfl (tyX4_ok 0 (by decide)) dX4_init_6 q1 (Nat.le_of_ble_eq_true rfl) rfl rfl ?_
  show Blk g M_X4_init post 9 [(0, .ref x0), (1, .int (nI x1))] [] (xup h x0 (xo 5 [.int (nI x1), .null, .null, .null, .null, .null, .int (nI 0), .int (nI 0)])) nx 0 0
  refine r_aload_n 0 dX4_init_9 rfl rfl ?_
  refine r_bipush (v := (nI 36)) dX4_init_10 rfl ?_
  refine r_newi wA_int dX4_init_12 rfl (by decide) (by decide) (by decide) ?_
  show Blk g M_X4_init post 14 [(0, .ref x0), (1, .int (nI x1))] [.ref nx, .ref x0] (xup (xup h x0 (xo 5 [.int (nI x1), .null, .null, .null, .null, .null, .int (nI 0), .int (nI 0)])) nx (xna 36 (fun _ => 0))) (nx + 1) 1 36
  obtain ⟨n2, V⟩ := V
  have q3 : (xup (xup h x0 (xo 5 [.int (nI x1), .null, .null, .null, .null, .null, .int (nI 0), .int (nI 0)])) nx (xna 36 (fun _ => 0))) x0 = some (xo 5 [.int (nI x1), .null, .null, .null, .null, .null, .int (nI 0), .int (nI 0)]) := (xup_n n2).trans (xup_s _ _ _)
  refine r_putF (ci := 5) (kf := 1) (T := TX4) rfl in_X4 tyX4_ok nmX4 (by decide) wF_X4_15 rfl rfl rfl (tyX4_ok 1 (by decide)) dX4_init_14 q3 (Nat.le_of_ble_eq_true rfl) rfl rfl ?_
  show Blk g M_X4_init post 17 [(0, .ref x0), (1, .int (nI x1))] [] (xup (xup (xup h x0 (xo 5 [.int (nI x1), .null, .null, .null, .null, .null, .int (nI 0), .int (nI 0)])) nx (xna 36 (fun _ => 0))) x0 (xo 5 [.int (nI x1), .ref nx, .null, .null, .null, .null, .int (nI 0), .int (nI 0)])) (nx + 1) 1 36
  refine r_aload_n 0 dX4_init_17 rfl rfl ?_
  refine r_bipush (v := (nI 6)) dX4_init_18 rfl ?_
  refine r_newi wA_int dX4_init_20 rfl (by decide) (by decide) (by decide) ?_
  show Blk g M_X4_init post 22 [(0, .ref x0), (1, .int (nI x1))] [.ref (nx + 1), .ref x0] (xup (xup (xup (xup h x0 (xo 5 [.int (nI x1), .null, .null, .null, .null, .null, .int (nI 0), .int (nI 0)])) nx (xna 36 (fun _ => 0))) x0 (xo 5 [.int (nI x1), .ref nx, .null, .null, .null, .null, .int (nI 0), .int (nI 0)])) (nx + 1) (xna 6 (fun _ => 0))) ((nx + 1) + 1) 2 42
  obtain ⟨n4, V⟩ := V
  have q5 : (xup (xup (xup (xup h x0 (xo 5 [.int (nI x1), .null, .null, .null, .null, .null, .int (nI 0), .int (nI 0)])) nx (xna 36 (fun _ => 0))) x0 (xo 5 [.int (nI x1), .ref nx, .null, .null, .null, .null, .int (nI 0), .int (nI 0)])) (nx + 1) (xna 6 (fun _ => 0))) x0 = some (xo 5 [.int (nI x1), .ref nx, .null, .null, .null, .null, .int (nI 0), .int (nI 0)]) := (xup_n n4).trans (xup_s _ _ _)
  refine r_putF (ci := 5) (kf := 2) (T := TX4) rfl in_X4 tyX4_ok nmX4 (by decide) wF_X4_19 rfl rfl rfl (tyX4_ok 2 (by decide)) dX4_init_22 q5 (Nat.le_of_ble_eq_true rfl) rfl rfl ?_
  show Blk g M_X4_init post 25 [(0, .ref x0), (1, .int (nI x1))] [] (xup (xup (xup (xup (xup h x0 (xo 5 [.int (nI x1), .null, .null, .null, .null, .null, .int (nI 0), .int (nI 0)])) nx (xna 36 (fun _ => 0))) x0 (xo 5 [.int (nI x1), .ref nx, .null, .null, .null, .null, .int (nI 0), .int (nI 0)])) (nx + 1) (xna 6 (fun _ => 0))) x0 (xo 5 [.int (nI x1), .ref nx, .ref (nx + 1), .null, .null, .null, .int (nI 0), .int (nI 0)])) ((nx + 1) + 1) 2 42
  refine r_aload_n 0 dX4_init_25 rfl rfl ?_
  refine r_bipush (v := (nI 6)) dX4_init_26 rfl ?_
  refine r_newi wA_int dX4_init_28 rfl (by decide) (by decide) (by decide) ?_
  show Blk g M_X4_init post 30 [(0, .ref x0), (1, .int (nI x1))] [.ref ((nx + 1) + 1), .ref x0] (xup (xup (xup (xup (xup (xup h x0 (xo 5 [.int (nI x1), .null, .null, .null, .null, .null, .int (nI 0), .int (nI 0)])) nx (xna 36 (fun _ => 0))) x0 (xo 5 [.int (nI x1), .ref nx, .null, .null, .null, .null, .int (nI 0), .int (nI 0)])) (nx + 1) (xna 6 (fun _ => 0))) x0 (xo 5 [.int (nI x1), .ref nx, .ref (nx + 1), .null, .null, .null, .int (nI 0), .int (nI 0)])) ((nx + 1) + 1) (xna 6 (fun _ => 0))) (((nx + 1) + 1) + 1) 3 48
  obtain ⟨n6, V⟩ := V
  have q7 : (xup (xup (xup (xup (xup (xup h x0 (xo 5 [.int (nI x1), .null, .null, .null, .null, .null, .int (nI 0), .int (nI 0)])) nx (xna 36 (fun _ => 0))) x0 (xo 5 [.int (nI x1), .ref nx, .null, .null, .null, .null, .int (nI 0), .int (nI 0)])) (nx + 1) (xna 6 (fun _ => 0))) x0 (xo 5 [.int (nI x1), .ref nx, .ref (nx + 1), .null, .null, .null, .int (nI 0), .int (nI 0)])) ((nx + 1) + 1) (xna 6 (fun _ => 0))) x0 = some (xo 5 [.int (nI x1), .ref nx, .ref (nx + 1), .null, .null, .null, .int (nI 0), .int (nI 0)]) := (xup_n n6).trans (xup_s _ _ _)
  refine r_putF (ci := 5) (kf := 3) (T := TX4) rfl in_X4 tyX4_ok nmX4 (by decide) wF_X4_22 rfl rfl rfl (tyX4_ok 3 (by decide)) dX4_init_30 q7 (Nat.le_of_ble_eq_true rfl) rfl rfl ?_
  show Blk g M_X4_init post 33 [(0, .ref x0), (1, .int (nI x1))] [] (xup (xup (xup (xup (xup (xup (xup h x0 (xo 5 [.int (nI x1), .null, .null, .null, .null, .null, .int (nI 0), .int (nI 0)])) nx (xna 36 (fun _ => 0))) x0 (xo 5 [.int (nI x1), .ref nx, .null, .null, .null, .null, .int (nI 0), .int (nI 0)])) (nx + 1) (xna 6 (fun _ => 0))) x0 (xo 5 [.int (nI x1), .ref nx, .ref (nx + 1), .null, .null, .null, .int (nI 0), .int (nI 0)])) ((nx + 1) + 1) (xna 6 (fun _ => 0))) x0 (xo 5 [.int (nI x1), .ref nx, .ref (nx + 1), .ref ((nx + 1) + 1), .null, .null, .int (nI 0), .int (nI 0)])) (((nx + 1) + 1) + 1) 3 48
  refine r_aload_n 0 dX4_init_33 rfl rfl ?_
  refine r_bipush (v := (nI 36)) dX4_init_34 rfl ?_
  refine r_newi wA_int dX4_init_36 rfl (by decide) (by decide) (by decide) ?_
  show Blk g M_X4_init post 38 [(0, .ref x0), (1, .int (nI x1))] [.ref (((nx + 1) + 1) + 1), .ref x0] (xup (xup (xup (xup (xup (xup (xup (xup h x0 (xo 5 [.int (nI x1), .null, .null, .null, .null, .null, .int (nI 0), .int (nI 0)])) nx (xna 36 (fun _ => 0))) x0 (xo 5 [.int (nI x1), .ref nx, .null, .null, .null, .null, .int (nI 0), .int (nI 0)])) (nx + 1) (xna 6 (fun _ => 0))) x0 (xo 5 [.int (nI x1), .ref nx, .ref (nx + 1), .null, .null, .null, .int (nI 0), .int (nI 0)])) ((nx + 1) + 1) (xna 6 (fun _ => 0))) x0 (xo 5 [.int (nI x1), .ref nx, .ref (nx + 1), .ref ((nx + 1) + 1), .null, .null, .int (nI 0), .int (nI 0)])) (((nx + 1) + 1) + 1) (xna 36 (fun _ => 0))) ((((nx + 1) + 1) + 1) + 1) 4 84
  obtain ⟨n8, V⟩ := V
  have q9 : (xup (xup (xup (xup (xup (xup (xup (xup h x0 (xo 5 [.int (nI x1), .null, .null, .null, .null, .null, .int (nI 0), .int (nI 0)])) nx (xna 36 (fun _ => 0))) x0 (xo 5 [.int (nI x1), .ref nx, .null, .null, .null, .null, .int (nI 0), .int (nI 0)])) (nx + 1) (xna 6 (fun _ => 0))) x0 (xo 5 [.int (nI x1), .ref nx, .ref (nx + 1), .null, .null, .null, .int (nI 0), .int (nI 0)])) ((nx + 1) + 1) (xna 6 (fun _ => 0))) x0 (xo 5 [.int (nI x1), .ref nx, .ref (nx + 1), .ref ((nx + 1) + 1), .null, .null, .int (nI 0), .int (nI 0)])) (((nx + 1) + 1) + 1) (xna 36 (fun _ => 0))) x0 = some (xo 5 [.int (nI x1), .ref nx, .ref (nx + 1), .ref ((nx + 1) + 1), .null, .null, .int (nI 0), .int (nI 0)]) := (xup_n n8).trans (xup_s _ _ _)
  refine r_putF (ci := 5) (kf := 4) (T := TX4) rfl in_X4 tyX4_ok nmX4 (by decide) wF_X4_25 rfl rfl rfl (tyX4_ok 4 (by decide)) dX4_init_38 q9 (Nat.le_of_ble_eq_true rfl) rfl rfl ?_
  show Blk g M_X4_init post 41 [(0, .ref x0), (1, .int (nI x1))] [] (xup (xup (xup (xup (xup (xup (xup (xup (xup h x0 (xo 5 [.int (nI x1), .null, .null, .null, .null, .null, .int (nI 0), .int (nI 0)])) nx (xna 36 (fun _ => 0))) x0 (xo 5 [.int (nI x1), .ref nx, .null, .null, .null, .null, .int (nI 0), .int (nI 0)])) (nx + 1) (xna 6 (fun _ => 0))) x0 (xo 5 [.int (nI x1), .ref nx, .ref (nx + 1), .null, .null, .null, .int (nI 0), .int (nI 0)])) ((nx + 1) + 1) (xna 6 (fun _ => 0))) x0 (xo 5 [.int (nI x1), .ref nx, .ref (nx + 1), .ref ((nx + 1) + 1), .null, .null, .int (nI 0), .int (nI 0)])) (((nx + 1) + 1) + 1) (xna 36 (fun _ => 0))) x0 (xo 5 [.int (nI x1), .ref nx, .ref (nx + 1), .ref ((nx + 1) + 1), .ref (((nx + 1) + 1) + 1), .null, .int (nI 0), .int (nI 0)])) ((((nx + 1) + 1) + 1) + 1) 4 84
  refine r_aload_n 0 dX4_init_41 rfl rfl ?_
  refine r_bipush (v := (nI 6)) dX4_init_42 rfl ?_
  refine r_newi wA_int dX4_init_44 rfl (by decide) (by decide) (by decide) ?_
  show Blk g M_X4_init post 46 [(0, .ref x0), (1, .int (nI x1))] [.ref ((((nx + 1) + 1) + 1) + 1), .ref x0] (xup (xup (xup (xup (xup (xup (xup (xup (xup (xup h x0 (xo 5 [.int (nI x1), .null, .null, .null, .null, .null, .int (nI 0), .int (nI 0)])) nx (xna 36 (fun _ => 0))) x0 (xo 5 [.int (nI x1), .ref nx, .null, .null, .null, .null, .int (nI 0), .int (nI 0)])) (nx + 1) (xna 6 (fun _ => 0))) x0 (xo 5 [.int (nI x1), .ref nx, .ref (nx + 1), .null, .null, .null, .int (nI 0), .int (nI 0)])) ((nx + 1) + 1) (xna 6 (fun _ => 0))) x0 (xo 5 [.int (nI x1), .ref nx, .ref (nx + 1), .ref ((nx + 1) + 1), .null, .null, .int (nI 0), .int (nI 0)])) (((nx + 1) + 1) + 1) (xna 36 (fun _ => 0))) x0 (xo 5 [.int (nI x1), .ref nx, .ref (nx + 1), .ref ((nx + 1) + 1), .ref (((nx + 1) + 1) + 1), .null, .int (nI 0), .int (nI 0)])) ((((nx + 1) + 1) + 1) + 1) (xna 6 (fun _ => 0))) (((((nx + 1) + 1) + 1) + 1) + 1) 5 90
  obtain ⟨n10, V⟩ := V
  have q11 : (xup (xup (xup (xup (xup (xup (xup (xup (xup (xup h x0 (xo 5 [.int (nI x1), .null, .null, .null, .null, .null, .int (nI 0), .int (nI 0)])) nx (xna 36 (fun _ => 0))) x0 (xo 5 [.int (nI x1), .ref nx, .null, .null, .null, .null, .int (nI 0), .int (nI 0)])) (nx + 1) (xna 6 (fun _ => 0))) x0 (xo 5 [.int (nI x1), .ref nx, .ref (nx + 1), .null, .null, .null, .int (nI 0), .int (nI 0)])) ((nx + 1) + 1) (xna 6 (fun _ => 0))) x0 (xo 5 [.int (nI x1), .ref nx, .ref (nx + 1), .ref ((nx + 1) + 1), .null, .null, .int (nI 0), .int (nI 0)])) (((nx + 1) + 1) + 1) (xna 36 (fun _ => 0))) x0 (xo 5 [.int (nI x1), .ref nx, .ref (nx + 1), .ref ((nx + 1) + 1), .ref (((nx + 1) + 1) + 1), .null, .int (nI 0), .int (nI 0)])) ((((nx + 1) + 1) + 1) + 1) (xna 6 (fun _ => 0))) x0 = some (xo 5 [.int (nI x1), .ref nx, .ref (nx + 1), .ref ((nx + 1) + 1), .ref (((nx + 1) + 1) + 1), .null, .int (nI 0), .int (nI 0)]) := (xup_n n10).trans (xup_s _ _ _)
  refine r_putF (ci := 5) (kf := 5) (T := TX4) rfl in_X4 tyX4_ok nmX4 (by decide) wF_X4_28 rfl rfl rfl (tyX4_ok 5 (by decide)) dX4_init_46 q11 (Nat.le_of_ble_eq_true rfl) rfl rfl ?_
  show Blk g M_X4_init post 49 [(0, .ref x0), (1, .int (nI x1))] [] (xup (xup (xup (xup (xup (xup (xup (xup (xup (xup (xup h x0 (xo 5 [.int (nI x1), .null, .null, .null, .null, .null, .int (nI 0), .int (nI 0)])) nx (xna 36 (fun _ => 0))) x0 (xo 5 [.int (nI x1), .ref nx, .null, .null, .null, .null, .int (nI 0), .int (nI 0)])) (nx + 1) (xna 6 (fun _ => 0))) x0 (xo 5 [.int (nI x1), .ref nx, .ref (nx + 1), .null, .null, .null, .int (nI 0), .int (nI 0)])) ((nx + 1) + 1) (xna 6 (fun _ => 0))) x0 (xo 5 [.int (nI x1), .ref nx, .ref (nx + 1), .ref ((nx + 1) + 1), .null, .null, .int (nI 0), .int (nI 0)])) (((nx + 1) + 1) + 1) (xna 36 (fun _ => 0))) x0 (xo 5 [.int (nI x1), .ref nx, .ref (nx + 1), .ref ((nx + 1) + 1), .ref (((nx + 1) + 1) + 1), .null, .int (nI 0), .int (nI 0)])) ((((nx + 1) + 1) + 1) + 1) (xna 6 (fun _ => 0))) x0 (xo 5 [.int (nI x1), .ref nx, .ref (nx + 1), .ref ((nx + 1) + 1), .ref (((nx + 1) + 1) + 1), .ref ((((nx + 1) + 1) + 1) + 1), .int (nI 0), .int (nI 0)])) (((((nx + 1) + 1) + 1) + 1) + 1) 5 90
  exact r_vret dX4_init_49 rfl (by decide) (by decide) V
set_option maxRecDepth 20000 in
theorem v_X4_setLeast_0 {g : xG} {post : xPost} {h : xHp} {nx : Nat} {x0 : Nat} {x1 : Nat} (V : (∃ (o2 : Nat) (o3 : Nat) (o4 : Nat) (o5 : Nat) (o6 : Nat) (o7 : Nat) (o8 : Nat) (o9 : Nat), h x0 = some (xo 5 [.int (nI o2), .ref o3, .ref o4, .ref o5, .ref o6, .ref o7, .int (nI o8), .int (nI o9)]) ∧ (post none (xup h x0 (xo 5 [.int (nI o2), .ref o3, .ref o4, .ref o5, .ref o6, .ref o7, .int (nI x1), .int (nI o9)])) nx))) : Blk g M_X4_setLeast post 0 [(0, .ref x0), (1, .int (nI x1))] [] h nx 0 0 := by
  refine r_aload_n 0 dX4_setLeast_0 rfl rfl ?_
  refine r_iload_n 1 dX4_setLeast_1 rfl rfl ?_
  obtain ⟨o2, o3, o4, o5, o6, o7, o8, o9, q1, V⟩ := V
  refine r_putf (ci := 5) (kf := 6) (T := TX4) rfl in_X4 tyX4_ok nmX4 (by decide) wF_X4_31 rfl (tyX4_ok 6 (by decide)) dX4_setLeast_2 q1 (Nat.le_of_ble_eq_true rfl) rfl rfl ?_
  show Blk g M_X4_setLeast post 5 [(0, .ref x0), (1, .int (nI x1))] [] (xup h x0 (xo 5 [.int (nI o2), .ref o3, .ref o4, .ref o5, .ref o6, .ref o7, .int (nI x1), .int (nI o9)])) nx 0 0
  exact r_vret dX4_setLeast_5 rfl (by decide) (by decide) V
set_option maxRecDepth 20000 in
theorem v_X4_number_0 {g : xG} {post : xPost} {h : xHp} {nx : Nat} {x0 : Nat} {x1 : Nat} {x2 : Nat} (V : (∃ (o2 : Nat) (o3 : Nat) (o4 : Nat) (o5 : Nat) (o6 : Nat) (o7 : Nat) (o8 : Nat) (o9 : Nat), h x0 = some (xo 5 [.int (nI o2), .ref o3, .ref o4, .ref o5, .ref o6, .ref o7, .int (nI o8), .int (nI o9)]) ∧ (∃ (N11 : Nat) (f12 : Nat → Nat), h o3 = some (xna N11 f12) ∧ ((x1 * 6) + x2) < N11 ∧ N11 < 2 ^ 31 ∧ (post (some (.int (nI (f12 ((x1 * 6) + x2))))) h nx)))) : Blk g M_X4_number post 0 [(0, .ref x0), (1, .int (nI x1)), (2, .int (nI x2))] [] h nx 0 0 := by
  refine r_aload_n 0 dX4_number_0 rfl rfl ?_
  obtain ⟨o2, o3, o4, o5, o6, o7, o8, o9, q1, V⟩ := V
  refine r_getf (ci := 5) (kf := 1) (T := TX4) rfl in_X4 (by decide) wF_X4_15 dX4_number_1 q1 rfl ?_
  refine r_iload_n 1 dX4_number_4 rfl rfl ?_
  refine r_bipush (v := (nI 6)) dX4_number_5 rfl ?_
  refine r_imulN dX4_number_7 ?_
  refine r_iload_n 2 dX4_number_8 rfl rfl ?_
  refine r_iaddN dX4_number_9 ?_
  obtain ⟨N11, f12, q10, V⟩ := V
  obtain ⟨c, cN, V⟩ := V
  refine r_iald dX4_number_10 q10 rfl c cN ?_
  show Blk g M_X4_number post 11 [(0, .ref x0), (1, .int (nI x1)), (2, .int (nI x2))] [.int (nI (f12 ((x1 * 6) + x2)))] h nx 0 0
  exact r_iret dX4_number_11 rfl (by decide) (by decide) V
set_option maxRecDepth 20000 in
theorem v_X4_total_0 {g : xG} {post : xPost} {h : xHp} {nx : Nat} {x0 : Nat} {x1 : Nat} (V : (∃ (o2 : Nat) (o3 : Nat) (o4 : Nat) (o5 : Nat) (o6 : Nat) (o7 : Nat) (o8 : Nat) (o9 : Nat), h x0 = some (xo 5 [.int (nI o2), .ref o3, .ref o4, .ref o5, .ref o6, .ref o7, .int (nI o8), .int (nI o9)]) ∧ (∃ (N11 : Nat) (f12 : Nat → Nat), h o4 = some (xna N11 f12) ∧ x1 < N11 ∧ N11 < 2 ^ 31 ∧ (post (some (.int (nI (f12 x1)))) h nx)))) : Blk g M_X4_total post 0 [(0, .ref x0), (1, .int (nI x1))] [] h nx 0 0 := by
  refine r_aload_n 0 dX4_total_0 rfl rfl ?_
  obtain ⟨o2, o3, o4, o5, o6, o7, o8, o9, q1, V⟩ := V
  refine r_getf (ci := 5) (kf := 2) (T := TX4) rfl in_X4 (by decide) wF_X4_19 dX4_total_1 q1 rfl ?_
  refine r_iload_n 1 dX4_total_4 rfl rfl ?_
  obtain ⟨N11, f12, q10, V⟩ := V
  obtain ⟨c, cN, V⟩ := V
  refine r_iald dX4_total_5 q10 rfl c cN ?_
  show Blk g M_X4_total post 6 [(0, .ref x0), (1, .int (nI x1))] [.int (nI (f12 x1))] h nx 0 0
  exact r_iret dX4_total_6 rfl (by decide) (by decide) V
set_option maxRecDepth 20000 in
theorem v_X4_inOneGroup_0 {g : xG} {post : xPost} {h : xHp} {nx : Nat} {x0 : Nat} {x1 : Nat} {x2 : Nat} (V : (∃ (o2 : Nat) (o3 : Nat) (o4 : Nat) (o5 : Nat) (o6 : Nat) (o7 : Nat) (o8 : Nat) (o9 : Nat), h x0 = some (xo 5 [.int (nI o2), .ref o3, .ref o4, .ref o5, .ref o6, .ref o7, .int (nI o8), .int (nI o9)]) ∧ (∃ (N11 : Nat) (f12 : Nat → Nat), h o5 = some (xna N11 f12) ∧ x1 < N11 ∧ N11 < 2 ^ 31 ∧ (x2 < N11 ∧ N11 < 2 ^ 31 ∧ (((f12 x1) < 2 ^ 31 ∧ (f12 x2) < 2 ^ 31) ∧ ((¬ (f12 x1) = (f12 x2) → (post (some (.int (nI 0))) h nx)) ∧ ((f12 x1) = (f12 x2) → (post (some (.int (nI 1))) h nx)))))))) : Blk g M_X4_inOneGroup post 0 [(0, .ref x0), (1, .int (nI x1)), (2, .int (nI x2))] [] h nx 0 0 := by
  refine r_aload_n 0 dX4_inOneGroup_0 rfl rfl ?_
  obtain ⟨o2, o3, o4, o5, o6, o7, o8, o9, q1, V⟩ := V
  refine r_getf (ci := 5) (kf := 3) (T := TX4) rfl in_X4 (by decide) wF_X4_22 dX4_inOneGroup_1 q1 rfl ?_
  refine r_iload_n 1 dX4_inOneGroup_4 rfl rfl ?_
  obtain ⟨N11, f12, q10, V⟩ := V
  obtain ⟨c, cN, V⟩ := V
  refine r_iald dX4_inOneGroup_5 q10 rfl c cN ?_
  show Blk g M_X4_inOneGroup post 6 [(0, .ref x0), (1, .int (nI x1)), (2, .int (nI x2))] [.int (nI (f12 x1))] h nx 0 0
  refine r_aload_n 0 dX4_inOneGroup_6 rfl rfl ?_
  refine r_getf (ci := 5) (kf := 3) (T := TX4) rfl in_X4 (by decide) wF_X4_22 dX4_inOneGroup_7 q1 rfl ?_
  refine r_iload_n 2 dX4_inOneGroup_10 rfl rfl ?_
  obtain ⟨c, cN, V⟩ := V
  refine r_iald dX4_inOneGroup_11 q10 rfl c cN ?_
  show Blk g M_X4_inOneGroup post 12 [(0, .ref x0), (1, .int (nI x1)), (2, .int (nI x2))] [.int (nI (f12 x2)), .int (nI (f12 x1))] h nx 0 0
  obtain ⟨c, V⟩ := V
  refine r_icmp_neN (tgt := 19) dX4_inOneGroup_12 (by decide) c (fun c => ?_) (fun c => ?_)
  · have V := V.1 c
    refine r_iconst (v := (nI 0)) dX4_inOneGroup_19 rfl ?_
    exact r_zret (ty := .boolean) dX4_inOneGroup_20 rfl rfl (by decide) (by decide) V
  · have V := V.2 c
    refine r_iconst (v := (nI 1)) dX4_inOneGroup_15 rfl ?_
    refine r_goto (tgt := 20) dX4_inOneGroup_16 (by decide) ?_
    exact r_zret (ty := .boolean) dX4_inOneGroup_20 rfl rfl (by decide) (by decide) V
set_option maxRecDepth 20000 in
theorem v_X4_top_0 {g : xG} {post : xPost} {h : xHp} {nx : Nat} {x0 : Nat} {x1 : Nat} {x2 : Nat} (V : (∃ (o2 : Nat) (o3 : Nat) (o4 : Nat) (o5 : Nat) (o6 : Nat) (o7 : Nat) (o8 : Nat) (o9 : Nat), h x0 = some (xo 5 [.int (nI o2), .ref o3, .ref o4, .ref o5, .ref o6, .ref o7, .int (nI o8), .int (nI o9)]) ∧ (∃ (N11 : Nat) (f12 : Nat → Nat), h o6 = some (xna N11 f12) ∧ ((x1 * 6) + x2) < N11 ∧ N11 < 2 ^ 31 ∧ (post (some (.int (nI (f12 ((x1 * 6) + x2))))) h nx)))) : Blk g M_X4_top post 0 [(0, .ref x0), (1, .int (nI x1)), (2, .int (nI x2))] [] h nx 0 0 := by
  refine r_aload_n 0 dX4_top_0 rfl rfl ?_
  obtain ⟨o2, o3, o4, o5, o6, o7, o8, o9, q1, V⟩ := V
  refine r_getf (ci := 5) (kf := 4) (T := TX4) rfl in_X4 (by decide) wF_X4_25 dX4_top_1 q1 rfl ?_
  refine r_iload_n 1 dX4_top_4 rfl rfl ?_
  refine r_bipush (v := (nI 6)) dX4_top_5 rfl ?_
  refine r_imulN dX4_top_7 ?_
  refine r_iload_n 2 dX4_top_8 rfl rfl ?_
  refine r_iaddN dX4_top_9 ?_
  obtain ⟨N11, f12, q10, V⟩ := V
  obtain ⟨c, cN, V⟩ := V
  refine r_iald dX4_top_10 q10 rfl c cN ?_
  show Blk g M_X4_top post 11 [(0, .ref x0), (1, .int (nI x1)), (2, .int (nI x2))] [.int (nI (f12 ((x1 * 6) + x2)))] h nx 0 0
  exact r_iret dX4_top_11 rfl (by decide) (by decide) V
set_option maxRecDepth 20000 in
theorem v_X4_bottom_0 {g : xG} {post : xPost} {h : xHp} {nx : Nat} {x0 : Nat} {x1 : Nat} (V : (∃ (o2 : Nat) (o3 : Nat) (o4 : Nat) (o5 : Nat) (o6 : Nat) (o7 : Nat) (o8 : Nat) (o9 : Nat), h x0 = some (xo 5 [.int (nI o2), .ref o3, .ref o4, .ref o5, .ref o6, .ref o7, .int (nI o8), .int (nI o9)]) ∧ (∃ (N11 : Nat) (f12 : Nat → Nat), h o7 = some (xna N11 f12) ∧ x1 < N11 ∧ N11 < 2 ^ 31 ∧ (post (some (.int (nI (f12 x1)))) h nx)))) : Blk g M_X4_bottom post 0 [(0, .ref x0), (1, .int (nI x1))] [] h nx 0 0 := by
  refine r_aload_n 0 dX4_bottom_0 rfl rfl ?_
  obtain ⟨o2, o3, o4, o5, o6, o7, o8, o9, q1, V⟩ := V
  refine r_getf (ci := 5) (kf := 5) (T := TX4) rfl in_X4 (by decide) wF_X4_28 dX4_bottom_1 q1 rfl ?_
  refine r_iload_n 1 dX4_bottom_4 rfl rfl ?_
  obtain ⟨N11, f12, q10, V⟩ := V
  obtain ⟨c, cN, V⟩ := V
  refine r_iald dX4_bottom_5 q10 rfl c cN ?_
  show Blk g M_X4_bottom post 6 [(0, .ref x0), (1, .int (nI x1))] [.int (nI (f12 x1))] h nx 0 0
  exact r_iret dX4_bottom_6 rfl (by decide) (by decide) V
set_option maxRecDepth 20000 in
theorem v_X4_renew_0 {g : xG} {post : xPost} {h : xHp} {nx : Nat} {x0 : Nat} {x1 : Nat} (V : (∃ (o2 : Nat) (o3 : Nat) (o4 : Nat) (o5 : Nat) (o6 : Nat) (o7 : Nat) (o8 : Nat) (o9 : Nat), h x0 = some (xo 5 [.int (nI o2), .ref o3, .ref o4, .ref o5, .ref o6, .ref o7, .int (nI o8), .int (nI o9)]) ∧ (Ct g M_X4_countAll [.ref x0, .ref x1] (xup h x0 (xo 5 [.int (nI o2), .ref o3, .ref o4, .ref o5, .ref o6, .ref o7, .int (nI o8), .int (nI 0)])) nx (fun r h10 n11 => r = none ∧ (∃ (o15 : Nat) (o16 : Nat) (o17 : Nat) (o18 : Nat) (o19 : Nat) (o20 : Nat) (o21 : Nat) (o22 : Nat), h10 x0 = some (xo 5 [.int (nI o15), .ref o16, .ref o17, .ref o18, .ref o19, .ref o20, .int (nI o21), .int (nI o22)]) ∧ Ct g M_X4_groupAll [.ref x0] h10 n11 (fun r h12 n13 => r = none ∧ Blk g M_X4_renew post 16 [(0, .ref x0), (2, .int (nI 0))] [] h12 n13 0 0)))))) : Blk g M_X4_renew post 0 [(0, .ref x0), (1, .ref x1)] [] h nx 0 0 := by
  refine r_aload_n 0 dX4_renew_0 rfl rfl ?_
  refine r_iconst (v := (nI 0)) dX4_renew_1 rfl ?_
  obtain ⟨o2, o3, o4, o5, o6, o7, o8, o9, q1, V⟩ := V
  refine r_putf (ci := 5) (kf := 7) (T := TX4) rfl in_X4 tyX4_ok nmX4 (by decide) wF_X4_34 rfl (tyX4_ok 7 (by decide)) dX4_renew_2 q1 (Nat.le_of_ble_eq_true rfl) rfl rfl ?_
  show Blk g M_X4_renew post 5 [(0, .ref x0), (1, .ref x1)] [] (xup h x0 (xo 5 [.int (nI o2), .ref o3, .ref o4, .ref o5, .ref o6, .ref o7, .int (nI o8), .int (nI 0)])) nx 0 0
  refine r_aload_n 0 dX4_renew_5 rfl rfl ?_
  refine r_aload_n 1 dX4_renew_6 rfl rfl ?_
  refine r_callV (M2 := M_X4_countAll) (ci := 5) (n := 1) (As := [.ref x1]) rfl (wl5 wM_X4_38 wi_X4_countAll wS_X4_countAll wI_StateShares_Moves wc_X4_countAll) (by decide +kernel) (by decide) rfl rfl (Nat.le_of_ble_eq_true rfl) dX4_renew_7 (xup_s _ _ _) (by decide) (by decide) (Ct.imp V (fun r h10 n11 V => ?_))
  obtain ⟨rfl, V⟩ := V
  show Blk g M_X4_renew post 10 [(0, .ref x0), (1, .ref x1)] [] h10 n11 0 0
  refine r_aload_n 0 dX4_renew_10 rfl rfl ?_
  obtain ⟨o15, o16, o17, o18, o19, o20, o21, o22, q14, V⟩ := V
  refine r_callV (M2 := M_X4_groupAll) (ci := 5) (n := 0) (As := []) rfl (wl5 wM_X4_42 wi_X4_groupAll wS_X4_groupAll wI_StateShares_Moves wc_X4_groupAll) (by decide +kernel) (by decide) rfl rfl (Nat.le_of_ble_eq_true rfl) dX4_renew_11 q14 (by decide) (by decide) (Ct.imp V (fun r h12 n13 V => ?_))
  obtain ⟨rfl, V⟩ := V
  show Blk g M_X4_renew post 14 [(0, .ref x0), (1, .ref x1)] [] h12 n13 0 0
  refine r_iconst (v := (nI 0)) dX4_renew_14 rfl ?_
  refine r_istore_n (L' := [(2, .int (nI 0)), (0, .ref x0), (1, .ref x1)]) dX4_renew_15 rfl (by decide) rfl ?_
  exact Blk.sub [1, 0] rfl V
set_option maxRecDepth 20000 in
theorem v_X4_renew_16 {g : xG} {post : xPost} {h : xHp} {nx : Nat} {x0 : Nat} {x2 : Nat} (V : (∃ (o2 : Nat) (o3 : Nat) (o4 : Nat) (o5 : Nat) (o6 : Nat) (o7 : Nat) (o8 : Nat) (o9 : Nat), h x0 = some (xo 5 [.int (nI o2), .ref o3, .ref o4, .ref o5, .ref o6, .ref o7, .int (nI o8), .int (nI o9)]) ∧ ((x2 < 2 ^ 31 ∧ o2 < 2 ^ 31) ∧ ((o2 ≤ x2 → (o9 ≤ 1 ∧ post (some (.int (nI o9))) h nx)) ∧ (x2 < o2 → (Ct g M_X4_shareOut [.ref x0, .int (nI x2)] h nx (fun r h10 n11 => r = none ∧ Blk g M_X4_renew post 16 [(0, .ref x0), (2, .int (nI (x2 + 1)))] [] h10 n11 0 0))))))) : Blk g M_X4_renew post 16 [(0, .ref x0), (2, .int (nI x2))] [] h nx 0 0 := by
  refine r_iload_n 1 dX4_renew_16 rfl rfl ?_
  refine r_aload_n 0 dX4_renew_17 rfl rfl ?_
  obtain ⟨o2, o3, o4, o5, o6, o7, o8, o9, q1, V⟩ := V
  refine r_getf (ci := 5) (kf := 0) (T := TX4) rfl in_X4 (by decide) wF_X4_9 dX4_renew_18 q1 rfl ?_
  obtain ⟨c, V⟩ := V
  refine r_icmp_geN (tgt := 35) dX4_renew_21 (by decide) c (fun c => ?_) (fun c => ?_)
  · have V := V.1 c
    refine r_aload_n 0 dX4_renew_35 rfl rfl ?_
    refine r_getf (ci := 5) (kf := 7) (T := TX4) rfl in_X4 (by decide) wF_X4_34 dX4_renew_36 q1 rfl ?_
    obtain ⟨c, V⟩ := V
    exact r_zret (ty := .boolean) dX4_renew_39 rfl (n_bool c) (by decide) (by decide) V
  · have V := V.2 c
    refine r_aload_n 0 dX4_renew_24 rfl rfl ?_
    refine r_iload_n 1 dX4_renew_25 rfl rfl ?_
    refine r_callV (M2 := M_X4_shareOut) (ci := 5) (n := 1) (As := [.int (nI x2)]) rfl (wl5 wM_X4_45 wi_X4_shareOut wS_X4_shareOut wI_StateShares_Moves wc_X4_shareOut) (by decide +kernel) (by decide) rfl rfl (Nat.le_of_ble_eq_true rfl) dX4_renew_26 q1 (by decide) (by decide) (Ct.imp V (fun r h10 n11 V => ?_))
    obtain ⟨rfl, V⟩ := V
    show Blk g M_X4_renew post 29 [(0, .ref x0), (2, .int (nI x2))] [] h10 n11 0 0
    refine r_iincN 1 (b := 1) (L' := [(2, .int (nI (x2 + 1))), (0, .ref x0)]) dX4_renew_29 rfl rfl (by decide) rfl ?_
    refine r_goto (tgt := 16) dX4_renew_32 (by decide) ?_
    exact Blk.sub [1, 0] rfl V
set_option maxRecDepth 20000 in
theorem v_X4_countAll_0 {g : xG} {post : xPost} {h : xHp} {nx : Nat} {x0 : Nat} {x1 : Nat} (V : Blk g M_X4_countAll post 2 [(0, .ref x0), (1, .ref x1), (2, .int (nI 0))] [] h nx 0 0) : Blk g M_X4_countAll post 0 [(0, .ref x0), (1, .ref x1)] [] h nx 0 0 := by
  refine r_iconst (v := (nI 0)) dX4_countAll_0 rfl ?_
  refine r_istore_n (L' := [(2, .int (nI 0)), (0, .ref x0), (1, .ref x1)]) dX4_countAll_1 rfl (by decide) rfl ?_
  exact Blk.sub [1, 2, 0] rfl V
set_option maxRecDepth 20000 in
theorem v_X4_countAll_2 {g : xG} {post : xPost} {h : xHp} {nx : Nat} {x0 : Nat} {x1 : Nat} {x2 : Nat} (V : (∃ (o2 : Nat) (o3 : Nat) (o4 : Nat) (o5 : Nat) (o6 : Nat) (o7 : Nat) (o8 : Nat) (o9 : Nat), h x0 = some (xo 5 [.int (nI o2), .ref o3, .ref o4, .ref o5, .ref o6, .ref o7, .int (nI o8), .int (nI o9)]) ∧ (∃ (N11 : Nat) (f12 : Nat → Nat), h o3 = some (xna N11 f12) ∧ ((x2 < 2 ^ 31 ∧ N11 < 2 ^ 31) ∧ ((N11 ≤ x2 → Blk g M_X4_countAll post 26 [(0, .ref x0), (1, .ref x1), (2, .int (nI 0))] [] h nx 0 0) ∧ (x2 < N11 → (x2 < N11 ∧ N11 < 2 ^ 31 ∧ Blk g M_X4_countAll post 2 [(0, .ref x0), (1, .ref x1), (2, .int (nI (x2 + 1)))] [] (xup h o3 (xna N11 (va_up f12 x2 0))) nx 0 0))))))) : Blk g M_X4_countAll post 2 [(0, .ref x0), (1, .ref x1), (2, .int (nI x2))] [] h nx 0 0 := by
  refine r_iload_n 2 dX4_countAll_2 rfl rfl ?_
  refine r_aload_n 0 dX4_countAll_3 rfl rfl ?_
  obtain ⟨o2, o3, o4, o5, o6, o7, o8, o9, q1, V⟩ := V
  refine r_getf (ci := 5) (kf := 1) (T := TX4) rfl in_X4 (by decide) wF_X4_15 dX4_countAll_4 q1 rfl ?_
  obtain ⟨N11, f12, q10, V⟩ := V
  refine r_alen (kd := 0) (by decide) dX4_countAll_7 q10 ?_
  obtain ⟨c, V⟩ := V
  refine r_icmp_geN (tgt := 24) dX4_countAll_8 (by decide) c (fun c => ?_) (fun c => ?_)
  · have V := V.1 c
    refine r_iconst (v := (nI 0)) dX4_countAll_24 rfl ?_
    refine r_istore_n (L' := [(2, .int (nI 0)), (0, .ref x0), (1, .ref x1)]) dX4_countAll_25 rfl (by decide) rfl ?_
    exact Blk.sub [1, 2, 0] rfl V
  · have V := V.2 c
    refine r_aload_n 0 dX4_countAll_11 rfl rfl ?_
    refine r_getf (ci := 5) (kf := 1) (T := TX4) rfl in_X4 (by decide) wF_X4_15 dX4_countAll_12 q1 rfl ?_
    refine r_iload_n 2 dX4_countAll_15 rfl rfl ?_
    refine r_iconst (v := (nI 0)) dX4_countAll_16 rfl ?_
    obtain ⟨c, cN, V⟩ := V
    refine r_iastN dX4_countAll_17 q10 c cN ?_
    show Blk g M_X4_countAll post 18 [(0, .ref x0), (1, .ref x1), (2, .int (nI x2))] [] (xup h o3 (xna N11 (va_up f12 x2 0))) nx 0 0
    refine r_iincN 2 (b := 1) (L' := [(2, .int (nI (x2 + 1))), (0, .ref x0), (1, .ref x1)]) dX4_countAll_18 rfl rfl (by decide) rfl ?_
    refine r_goto (tgt := 2) dX4_countAll_21 (by decide) ?_
    exact Blk.sub [1, 2, 0] rfl V
set_option maxRecDepth 20000 in
theorem v_X4_countAll_26 {g : xG} {post : xPost} {h : xHp} {nx : Nat} {x0 : Nat} {x1 : Nat} {x2 : Nat} (V : (∃ (o2 : Nat) (o3 : Nat) (o4 : Nat) (o5 : Nat) (o6 : Nat) (o7 : Nat) (o8 : Nat) (o9 : Nat), h x0 = some (xo 5 [.int (nI o2), .ref o3, .ref o4, .ref o5, .ref o6, .ref o7, .int (nI o8), .int (nI o9)]) ∧ ((x2 < 2 ^ 31 ∧ o2 < 2 ^ 31) ∧ ((o2 ≤ x2 → Blk g M_X4_countAll post 49 [(0, .ref x0), (1, .ref x1), (2, .int (nI 0))] [] h nx 0 0) ∧ (x2 < o2 → (∃ (N11 : Nat) (f12 : Nat → Nat), h o4 = some (xna N11 f12) ∧ x2 < N11 ∧ N11 < 2 ^ 31 ∧ Blk g M_X4_countAll post 26 [(0, .ref x0), (1, .ref x1), (2, .int (nI (x2 + 1)))] [] (xup h o4 (xna N11 (va_up f12 x2 0))) nx 0 0)))))) : Blk g M_X4_countAll post 26 [(0, .ref x0), (1, .ref x1), (2, .int (nI x2))] [] h nx 0 0 := by
  refine r_iload_n 2 dX4_countAll_26 rfl rfl ?_
  refine r_aload_n 0 dX4_countAll_27 rfl rfl ?_
  obtain ⟨o2, o3, o4, o5, o6, o7, o8, o9, q1, V⟩ := V
  refine r_getf (ci := 5) (kf := 0) (T := TX4) rfl in_X4 (by decide) wF_X4_9 dX4_countAll_28 q1 rfl ?_
  obtain ⟨c, V⟩ := V
  refine r_icmp_geN (tgt := 47) dX4_countAll_31 (by decide) c (fun c => ?_) (fun c => ?_)
  · have V := V.1 c
    refine r_iconst (v := (nI 0)) dX4_countAll_47 rfl ?_
    refine r_istore_n (L' := [(2, .int (nI 0)), (0, .ref x0), (1, .ref x1)]) dX4_countAll_48 rfl (by decide) rfl ?_
    exact Blk.sub [1, 2, 0] rfl V
  · have V := V.2 c
    refine r_aload_n 0 dX4_countAll_34 rfl rfl ?_
    refine r_getf (ci := 5) (kf := 2) (T := TX4) rfl in_X4 (by decide) wF_X4_19 dX4_countAll_35 q1 rfl ?_
    refine r_iload_n 2 dX4_countAll_38 rfl rfl ?_
    refine r_iconst (v := (nI 0)) dX4_countAll_39 rfl ?_
    obtain ⟨N11, f12, q10, V⟩ := V
    obtain ⟨c, cN, V⟩ := V
    refine r_iastN dX4_countAll_40 q10 c cN ?_
    show Blk g M_X4_countAll post 41 [(0, .ref x0), (1, .ref x1), (2, .int (nI x2))] [] (xup h o4 (xna N11 (va_up f12 x2 0))) nx 0 0
    refine r_iincN 2 (b := 1) (L' := [(2, .int (nI (x2 + 1))), (0, .ref x0), (1, .ref x1)]) dX4_countAll_41 rfl rfl (by decide) rfl ?_
    refine r_goto (tgt := 26) dX4_countAll_44 (by decide) ?_
    exact Blk.sub [1, 2, 0] rfl V
set_option maxRecDepth 20000 in
theorem v_X4_countAll_49 {g : xG} {post : xPost} {h : xHp} {nx : Nat} {x0 : Nat} {x1 : Nat} {x2 : Nat} (V : ((x2 < 2 ^ 31 ∧ 10 < 2 ^ 31) ∧ ((10 ≤ x2 → (post none h nx)) ∧ (x2 < 10 → Blk g M_X4_countAll post 57 [(0, .ref x0), (1, .ref x1), (2, .int (nI x2)), (3, .int (nI 0))] [] h nx 0 0)))) : Blk g M_X4_countAll post 49 [(0, .ref x0), (1, .ref x1), (2, .int (nI x2))] [] h nx 0 0 := by
  refine r_iload_n 2 dX4_countAll_49 rfl rfl ?_
  refine r_bipush (v := (nI 10)) dX4_countAll_50 rfl ?_
  obtain ⟨c, V⟩ := V
  refine r_icmp_geN (tgt := 135) dX4_countAll_52 (by decide) c (fun c => ?_) (fun c => ?_)
  · have V := V.1 c
    exact r_vret dX4_countAll_135 rfl (by decide) (by decide) V
  · have V := V.2 c
    refine r_iconst (v := (nI 0)) dX4_countAll_55 rfl ?_
    refine r_istore_n (L' := [(3, .int (nI 0)), (0, .ref x0), (1, .ref x1), (2, .int (nI x2))]) dX4_countAll_56 rfl (by decide) rfl ?_
    exact Blk.sub [1, 2, 3, 0] rfl V
set_option maxRecDepth 20000 in
theorem v_X4_countAll_57 {g : xG} {post : xPost} {h : xHp} {nx : Nat} {x0 : Nat} {x1 : Nat} {x2 : Nat} {x3 : Nat} (V : (((x3 + 1) < 2 ^ 31 ∧ 12 < 2 ^ 31) ∧ ((12 ≤ (x3 + 1) → Blk g M_X4_countAll post 49 [(0, .ref x0), (1, .ref x1), (2, .int (nI (x2 + 1)))] [] h nx 0 0) ∧ ((x3 + 1) < 12 → (∃ (o4 : Nat) (o5 : Nat) (o6 : Nat) (o7 : Nat), h x1 = some (xo 4 [.ref o4, .ref o5, .ref o6, .ref o7]) ∧ Ct g M_X3_stateOf [.ref x1, .int (nI x2), .int (nI x3)] h nx (fun r h1 n2 => ∃ v8 : Int32, r = some (.int v8) ∧ (∃ (o12 : Nat) (o13 : Nat) (o14 : Nat) (o15 : Nat), h1 x1 = some (xo 4 [.ref o12, .ref o13, .ref o14, .ref o15]) ∧ Ct g M_X3_stateOf [.ref x1, .int (nI x2), .int (nI (x3 + 1))] h1 n2 (fun r h9 n10 => ∃ v16 : Int32, r = some (.int v16) ∧ ((v8 = (-1) → Blk g M_X4_countAll post 57 [(0, .ref x0), (1, .ref x1), (2, .int (nI x2)), (3, .int (nI (x3 + 1)))] [] h9 n10 0 0) ∧ (¬ v8 = (-1) → ((v16 = (-1) → Blk g M_X4_countAll post 57 [(0, .ref x0), (1, .ref x1), (2, .int (nI x2)), (3, .int (nI (x3 + 1)))] [] h9 n10 0 0) ∧ (¬ v16 = (-1) → (∃ (o18 : Nat) (o19 : Nat) (o20 : Nat) (o21 : Nat) (o22 : Nat) (o23 : Nat) (o24 : Nat) (o25 : Nat), h9 x0 = some (xo 5 [.int (nI o18), .ref o19, .ref o20, .ref o21, .ref o22, .ref o23, .int (nI o24), .int (nI o25)]) ∧ (∃ (N27 : Nat) (f28 : Nat → Nat), h9 o19 = some (xna N27 f28) ∧ ∃ j29 : Nat, ((v8 * (nI 6)) + v16) = nI j29 ∧ j29 < N27 ∧ N27 < 2 ^ 31 ∧ (∃ j31 : Nat, ((v8 * (nI 6)) + v16) = nI j31 ∧ j31 < N27 ∧ N27 < 2 ^ 31 ∧ (∃ (N35 : Nat) (f36 : Nat → Nat), h9 o20 = some (xna N35 f36) ∧ o20 ≠ o19 ∧ ∃ j39 : Nat, v8 = nI j39 ∧ j39 < N35 ∧ N35 < 2 ^ 31 ∧ (∃ j41 : Nat, v8 = nI j41 ∧ j41 < N35 ∧ N35 < 2 ^ 31 ∧ Blk g M_X4_countAll post 57 [(0, .ref x0), (1, .ref x1), (2, .int (nI x2)), (3, .int (nI (x3 + 1)))] [] (xup (xup h9 o19 (xna N27 (va_up f28 j31 ((f28 j29) + 1)))) o20 (xna N35 (va_up f36 j41 ((f36 j39) + 1)))) n10 0 0))))))))))))))))) : Blk g M_X4_countAll post 57 [(0, .ref x0), (1, .ref x1), (2, .int (nI x2)), (3, .int (nI x3))] [] h nx 0 0 := by
  refine r_iload_n 3 dX4_countAll_57 rfl rfl ?_
  refine r_iconst (v := (nI 1)) dX4_countAll_58 rfl ?_
  refine r_iaddN dX4_countAll_59 ?_
  refine r_bipush (v := (nI 12)) dX4_countAll_60 rfl ?_
  obtain ⟨c, V⟩ := V
  refine r_icmp_geN (tgt := 129) dX4_countAll_62 (by decide) c (fun c => ?_) (fun c => ?_)
  · have V := V.1 c
    refine r_iincN 2 (b := 1) (L' := [(2, .int (nI (x2 + 1))), (0, .ref x0), (1, .ref x1), (3, .int (nI x3))]) dX4_countAll_129 rfl rfl (by decide) rfl ?_
    refine r_goto (tgt := 49) dX4_countAll_132 (by decide) ?_
    exact Blk.sub [1, 2, 0] rfl V
  · have V := V.2 c
    refine r_aload_n 1 dX4_countAll_65 rfl rfl ?_
    refine r_iload_n 2 dX4_countAll_66 rfl rfl ?_
    refine r_iload_n 3 dX4_countAll_67 rfl rfl ?_
    obtain ⟨o4, o5, o6, o7, q3, V⟩ := V
    refine r_callV (M2 := M_X3_stateOf) (ci := 4) (n := 2) (As := [.int (nI x2), .int (nI x3)]) rfl (wl5 wM_X4_49 wi_X3_stateOf wS_X3_stateOf wI_StateShares_Marks wc_X3_stateOf) (by decide +kernel) (by decide) rfl rfl (Nat.le_of_ble_eq_true rfl) dX4_countAll_68 q3 (by decide) (by decide) (Ct.imp V (fun r h1 n2 V => ?_))
    obtain ⟨v8, rfl, V⟩ := V
    show Blk g M_X4_countAll post 71 [(0, .ref x0), (1, .ref x1), (2, .int (nI x2)), (3, .int (nI x3))] [.int v8] h1 n2 0 0
    refine r_istore (L' := [(4, .int v8), (0, .ref x0), (1, .ref x1), (2, .int (nI x2)), (3, .int (nI x3))]) dX4_countAll_71 (by decide) rfl ?_
    refine r_aload_n 2 dX4_countAll_73 rfl rfl ?_
    refine r_iload_n 3 dX4_countAll_74 rfl rfl ?_
    refine r_iload_n 4 dX4_countAll_75 rfl rfl ?_
    refine r_iconst (v := (nI 1)) dX4_countAll_76 rfl ?_
    refine r_iaddN dX4_countAll_77 ?_
    obtain ⟨o12, o13, o14, o15, q11, V⟩ := V
    refine r_callV (M2 := M_X3_stateOf) (ci := 4) (n := 2) (As := [.int (nI x2), .int (nI (x3 + 1))]) rfl (wl5 wM_X4_49 wi_X3_stateOf wS_X3_stateOf wI_StateShares_Marks wc_X3_stateOf) (by decide +kernel) (by decide) rfl rfl (Nat.le_of_ble_eq_true rfl) dX4_countAll_78 q11 (by decide) (by decide) (Ct.imp V (fun r h9 n10 V => ?_))
    obtain ⟨v16, rfl, V⟩ := V
    show Blk g M_X4_countAll post 81 [(4, .int v8), (0, .ref x0), (1, .ref x1), (2, .int (nI x2)), (3, .int (nI x3))] [.int v16] h9 n10 0 0
    refine r_istore (L' := [(5, .int v16), (4, .int v8), (0, .ref x0), (1, .ref x1), (2, .int (nI x2)), (3, .int (nI x3))]) dX4_countAll_81 (by decide) rfl ?_
    refine r_iload 1 dX4_countAll_83 rfl ?_
    refine r_iconst (v := (-1)) dX4_countAll_85 rfl ?_
    refine r_icmp_eq (tgt := 123) dX4_countAll_86 (by decide) (fun c => ?_) (fun c => ?_)
    · have V := V.1 c
      refine r_iincN 5 (b := 1) (L' := [(3, .int (nI (x3 + 1))), (5, .int v16), (4, .int v8), (0, .ref x0), (1, .ref x1), (2, .int (nI x2))]) dX4_countAll_123 rfl rfl (by decide) rfl ?_
      refine r_goto (tgt := 57) dX4_countAll_126 (by decide) ?_
      exact Blk.sub [3, 4, 5, 0] rfl V
    · have V := V.2 c
      refine r_iload 0 dX4_countAll_89 rfl ?_
      refine r_iconst (v := (-1)) dX4_countAll_91 rfl ?_
      refine r_icmp_eq (tgt := 123) dX4_countAll_92 (by decide) (fun c => ?_) (fun c => ?_)
      · have V := V.1 c
        refine r_iincN 5 (b := 1) (L' := [(3, .int (nI (x3 + 1))), (5, .int v16), (4, .int v8), (0, .ref x0), (1, .ref x1), (2, .int (nI x2))]) dX4_countAll_123 rfl rfl (by decide) rfl ?_
        refine r_goto (tgt := 57) dX4_countAll_126 (by decide) ?_
        exact Blk.sub [3, 4, 5, 0] rfl V
      · have V := V.2 c
        refine r_aload_n 2 dX4_countAll_95 rfl rfl ?_
        obtain ⟨o18, o19, o20, o21, o22, o23, o24, o25, q17, V⟩ := V
        refine r_getf (ci := 5) (kf := 1) (T := TX4) rfl in_X4 (by decide) wF_X4_15 dX4_countAll_96 q17 rfl ?_
        refine r_iload 1 dX4_countAll_99 rfl ?_
        refine r_bipush (v := (nI 6)) dX4_countAll_101 rfl ?_
        refine r_imul dX4_countAll_103 ?_
        refine r_iload 0 dX4_countAll_104 rfl ?_
        refine r_iadd dX4_countAll_106 ?_
        refine r_dup2_11 dX4_countAll_107 rfl rfl ?_
        obtain ⟨N27, f28, q26, V⟩ := V
        obtain ⟨j29, e30, V⟩ := V
        obtain ⟨c, cN, V⟩ := V
        refine r_iald dX4_countAll_108 q26 e30 c cN ?_
        show Blk g M_X4_countAll post 109 [(5, .int v16), (4, .int v8), (0, .ref x0), (1, .ref x1), (2, .int (nI x2)), (3, .int (nI x3))] [.int (nI (f28 j29)), .int ((v8 * (nI 6)) + v16), .ref o19] h9 n10 0 0
        refine r_iconst (v := (nI 1)) dX4_countAll_109 rfl ?_
        refine r_iaddN dX4_countAll_110 ?_
        obtain ⟨j31, e32, V⟩ := V
        obtain ⟨c, cN, V⟩ := V
        refine r_iastH dX4_countAll_111 q26 e32 c cN ?_
        show Blk g M_X4_countAll post 112 [(5, .int v16), (4, .int v8), (0, .ref x0), (1, .ref x1), (2, .int (nI x2)), (3, .int (nI x3))] [] (xup h9 o19 (xna N27 (va_up f28 j31 ((f28 j29) + 1)))) n10 0 0
        refine r_aload_n 2 dX4_countAll_112 rfl rfl ?_
        have q33 : (xup h9 o19 (xna N27 (va_up f28 j31 ((f28 j29) + 1)))) x0 = some (xo 5 [.int (nI o18), .ref o19, .ref o20, .ref o21, .ref o22, .ref o23, .int (nI o24), .int (nI o25)]) := (xup_n (x_apart q17 q26 x_oa)).trans q17
        refine r_getf (ci := 5) (kf := 2) (T := TX4) rfl in_X4 (by decide) wF_X4_19 dX4_countAll_113 q33 rfl ?_
        refine r_iload 1 dX4_countAll_116 rfl ?_
        refine r_dup2_11 dX4_countAll_118 rfl rfl ?_
        obtain ⟨N35, f36, q34, V⟩ := V
        obtain ⟨n37, V⟩ := V
        have q38 : (xup h9 o19 (xna N27 (va_up f28 j31 ((f28 j29) + 1)))) o20 = some (xna N35 f36) := (xup_n n37).trans q34
        obtain ⟨j39, e40, V⟩ := V
        obtain ⟨c, cN, V⟩ := V
        refine r_iald dX4_countAll_119 q38 e40 c cN ?_
        show Blk g M_X4_countAll post 120 [(5, .int v16), (4, .int v8), (0, .ref x0), (1, .ref x1), (2, .int (nI x2)), (3, .int (nI x3))] [.int (nI (f36 j39)), .int v8, .ref o20] (xup h9 o19 (xna N27 (va_up f28 j31 ((f28 j29) + 1)))) n10 0 0
        refine r_iconst (v := (nI 1)) dX4_countAll_120 rfl ?_
        refine r_iaddN dX4_countAll_121 ?_
        obtain ⟨j41, e42, V⟩ := V
        obtain ⟨c, cN, V⟩ := V
        refine r_iastH dX4_countAll_122 q38 e42 c cN ?_
        show Blk g M_X4_countAll post 123 [(5, .int v16), (4, .int v8), (0, .ref x0), (1, .ref x1), (2, .int (nI x2)), (3, .int (nI x3))] [] (xup (xup h9 o19 (xna N27 (va_up f28 j31 ((f28 j29) + 1)))) o20 (xna N35 (va_up f36 j41 ((f36 j39) + 1)))) n10 0 0
        refine r_iincN 5 (b := 1) (L' := [(3, .int (nI (x3 + 1))), (5, .int v16), (4, .int v8), (0, .ref x0), (1, .ref x1), (2, .int (nI x2))]) dX4_countAll_123 rfl rfl (by decide) rfl ?_
        refine r_goto (tgt := 57) dX4_countAll_126 (by decide) ?_
        exact Blk.sub [3, 4, 5, 0] rfl V
set_option maxRecDepth 20000 in
theorem v_X4_groupAll_0 {g : xG} {post : xPost} {h : xHp} {nx : Nat} {x0 : Nat} (V : Blk g M_X4_groupAll post 9 [(0, .ref x0), (1, .int (nI 0)), (2, .int (nI 0)), (3, .int (nI 0)), (4, .int (nI 0))] [] h nx 0 0) : Blk g M_X4_groupAll post 0 [(0, .ref x0)] [] h nx 0 0 := by
  refine r_iconst (v := (nI 0)) dX4_groupAll_0 rfl ?_
  refine r_istore_n (L' := [(1, .int (nI 0)), (0, .ref x0)]) dX4_groupAll_1 rfl (by decide) rfl ?_
  refine r_iconst (v := (nI 0)) dX4_groupAll_2 rfl ?_
  refine r_istore_n (L' := [(2, .int (nI 0)), (1, .int (nI 0)), (0, .ref x0)]) dX4_groupAll_3 rfl (by decide) rfl ?_
  refine r_iconst (v := (nI 0)) dX4_groupAll_4 rfl ?_
  refine r_istore_n (L' := [(3, .int (nI 0)), (2, .int (nI 0)), (1, .int (nI 0)), (0, .ref x0)]) dX4_groupAll_5 rfl (by decide) rfl ?_
  refine r_iconst (v := (nI 0)) dX4_groupAll_6 rfl ?_
  refine r_istore (L' := [(4, .int (nI 0)), (3, .int (nI 0)), (2, .int (nI 0)), (1, .int (nI 0)), (0, .ref x0)]) dX4_groupAll_7 (by decide) rfl ?_
  exact Blk.sub [4, 3, 2, 1, 0] rfl V
set_option maxRecDepth 20000 in
theorem v_X4_groupAll_9 {g : xG} {post : xPost} {h : xHp} {nx : Nat} {x0 : Nat} {x1 : Nat} {x2 : Nat} {x3 : Nat} {x4 : Nat} (V : (∃ (o2 : Nat) (o3 : Nat) (o4 : Nat) (o5 : Nat) (o6 : Nat) (o7 : Nat) (o8 : Nat) (o9 : Nat), h x0 = some (xo 5 [.int (nI o2), .ref o3, .ref o4, .ref o5, .ref o6, .ref o7, .int (nI o8), .int (nI o9)]) ∧ ((x4 < 2 ^ 31 ∧ o2 < 2 ^ 31) ∧ ((o2 ≤ x4 → (x3 < 2 ^ 31 ∧ ((x3 = 0 → (post none h nx)) ∧ (¬ x3 = 0 → (x1 < 2 ^ 31 ∧ ((x1 = 0 → (post none h nx)) ∧ (0 < x1 → (Ct g M_X4_joinToGroupBefore [.ref x0, .int (nI x1)] h nx (fun r h10 n11 => r = none ∧ (post none h10 n11)))))))))) ∧ (x4 < o2 → (∃ (N13 : Nat) (f14 : Nat → Nat), h o5 = some (xna N13 f14) ∧ x4 < N13 ∧ N13 < 2 ^ 31 ∧ (∃ (N17 : Nat) (f18 : Nat → Nat), h o4 = some (xna N17 f18) ∧ o4 ≠ o5 ∧ x4 < N17 ∧ N17 < 2 ^ 31 ∧ (((x2 + (f18 x4)) < 2 ^ 31 ∧ o8 < 2 ^ 31) ∧ ((o8 ≤ (x2 + (f18 x4)) → Blk g M_X4_groupAll post 9 [(0, .ref x0), (1, .int (nI (x1 + 1))), (2, .int (nI 0)), (3, .int (nI 0)), (4, .int (nI (x4 + 1)))] [] (xup h o5 (xna N13 (va_up f14 x4 x1))) nx 0 0) ∧ ((x2 + (f18 x4)) < o8 → Blk g M_X4_groupAll post 9 [(0, .ref x0), (1, .int (nI x1)), (2, .int (nI (x2 + (f18 x4)))), (3, .int (nI 1)), (4, .int (nI (x4 + 1)))] [] (xup h o5 (xna N13 (va_up f14 x4 x1))) nx 0 0)))))))))) : Blk g M_X4_groupAll post 9 [(0, .ref x0), (1, .int (nI x1)), (2, .int (nI x2)), (3, .int (nI x3)), (4, .int (nI x4))] [] h nx 0 0 := by
  refine r_iload 4 dX4_groupAll_9 rfl ?_
  refine r_aload_n 0 dX4_groupAll_11 rfl rfl ?_
  obtain ⟨o2, o3, o4, o5, o6, o7, o8, o9, q1, V⟩ := V
  refine r_getf (ci := 5) (kf := 0) (T := TX4) rfl in_X4 (by decide) wF_X4_9 dX4_groupAll_12 q1 rfl ?_
  obtain ⟨c, V⟩ := V
  refine r_icmp_geN (tgt := 65) dX4_groupAll_15 (by decide) c (fun c => ?_) (fun c => ?_)
  · have V := V.1 c
    refine r_iload_n 3 dX4_groupAll_65 rfl rfl ?_
    obtain ⟨c, V⟩ := V
    refine r_if_eqN (tgt := 78) dX4_groupAll_66 (by decide) c (fun c => ?_) (fun c => ?_)
    · have V := V.1 c
      exact r_vret dX4_groupAll_78 rfl (by decide) (by decide) V
    · have V := V.2 c
      refine r_iload_n 1 dX4_groupAll_69 rfl rfl ?_
      obtain ⟨c, V⟩ := V
      refine r_if_leN (tgt := 78) dX4_groupAll_70 (by decide) c (fun c => ?_) (fun c => ?_)
      · have V := V.1 c
        exact r_vret dX4_groupAll_78 rfl (by decide) (by decide) V
      · have V := V.2 c
        refine r_aload_n 0 dX4_groupAll_73 rfl rfl ?_
        refine r_iload_n 1 dX4_groupAll_74 rfl rfl ?_
        refine r_callV (M2 := M_X4_joinToGroupBefore) (ci := 5) (n := 1) (As := [.int (nI x1)]) rfl (wl5 wM_X4_55 wi_X4_joinToGroupBefore wS_X4_joinToGroupBefore wI_StateShares_Moves wc_X4_joinToGroupBefore) (by decide +kernel) (by decide) rfl rfl (Nat.le_of_ble_eq_true rfl) dX4_groupAll_75 q1 (by decide) (by decide) (Ct.imp V (fun r h10 n11 V => ?_))
        obtain ⟨rfl, V⟩ := V
        show Blk g M_X4_groupAll post 78 [(0, .ref x0), (1, .int (nI x1)), (2, .int (nI x2)), (3, .int (nI x3)), (4, .int (nI x4))] [] h10 n11 0 0
        exact r_vret dX4_groupAll_78 rfl (by decide) (by decide) V
  · have V := V.2 c
    refine r_aload_n 0 dX4_groupAll_18 rfl rfl ?_
    refine r_getf (ci := 5) (kf := 3) (T := TX4) rfl in_X4 (by decide) wF_X4_22 dX4_groupAll_19 q1 rfl ?_
    refine r_iload 4 dX4_groupAll_22 rfl ?_
    refine r_iload_n 1 dX4_groupAll_24 rfl rfl ?_
    obtain ⟨N13, f14, q12, V⟩ := V
    obtain ⟨c, cN, V⟩ := V
    refine r_iastN dX4_groupAll_25 q12 c cN ?_
    show Blk g M_X4_groupAll post 26 [(0, .ref x0), (1, .int (nI x1)), (2, .int (nI x2)), (3, .int (nI x3)), (4, .int (nI x4))] [] (xup h o5 (xna N13 (va_up f14 x4 x1))) nx 0 0
    refine r_iload_n 2 dX4_groupAll_26 rfl rfl ?_
    refine r_aload_n 0 dX4_groupAll_27 rfl rfl ?_
    have q15 : (xup h o5 (xna N13 (va_up f14 x4 x1))) x0 = some (xo 5 [.int (nI o2), .ref o3, .ref o4, .ref o5, .ref o6, .ref o7, .int (nI o8), .int (nI o9)]) := (xup_n (x_apart q1 q12 x_oa)).trans q1
    refine r_getf (ci := 5) (kf := 2) (T := TX4) rfl in_X4 (by decide) wF_X4_19 dX4_groupAll_28 q15 rfl ?_
    refine r_iload 4 dX4_groupAll_31 rfl ?_
    obtain ⟨N17, f18, q16, V⟩ := V
    obtain ⟨n19, V⟩ := V
    have q20 : (xup h o5 (xna N13 (va_up f14 x4 x1))) o4 = some (xna N17 f18) := (xup_n n19).trans q16
    obtain ⟨c, cN, V⟩ := V
    refine r_iald dX4_groupAll_33 q20 rfl c cN ?_
    show Blk g M_X4_groupAll post 34 [(0, .ref x0), (1, .int (nI x1)), (2, .int (nI x2)), (3, .int (nI x3)), (4, .int (nI x4))] [.int (nI (f18 x4)), .int (nI x2)] (xup h o5 (xna N13 (va_up f14 x4 x1))) nx 0 0
    refine r_iaddN dX4_groupAll_34 ?_
    refine r_istore_n (L' := [(2, .int (nI (x2 + (f18 x4)))), (0, .ref x0), (1, .int (nI x1)), (3, .int (nI x3)), (4, .int (nI x4))]) dX4_groupAll_35 rfl (by decide) rfl ?_
    refine r_iload_n 0 dX4_groupAll_36 rfl rfl ?_
    refine r_aload_n 1 dX4_groupAll_37 rfl rfl ?_
    refine r_getf (ci := 5) (kf := 6) (T := TX4) rfl in_X4 (by decide) wF_X4_31 dX4_groupAll_38 q15 rfl ?_
    obtain ⟨c, V⟩ := V
    refine r_icmp_geN (tgt := 48) dX4_groupAll_41 (by decide) c (fun c => ?_) (fun c => ?_)
    · have V := V.1 c
      refine r_iconst (v := (nI 0)) dX4_groupAll_48 rfl ?_
      refine r_istore_n (L' := [(3, .int (nI 0)), (2, .int (nI (x2 + (f18 x4)))), (0, .ref x0), (1, .int (nI x1)), (4, .int (nI x4))]) dX4_groupAll_49 rfl (by decide) rfl ?_
      refine r_iload_n 0 dX4_groupAll_50 rfl rfl ?_
      refine r_if_neN (tgt := 59) dX4_groupAll_51 (by decide) (by decide) (fun c => absurd c (by decide)) (fun _ => ?_)
      refine r_iincN 3 (b := 1) (L' := [(1, .int (nI (x1 + 1))), (3, .int (nI 0)), (2, .int (nI (x2 + (f18 x4)))), (0, .ref x0), (4, .int (nI x4))]) dX4_groupAll_54 rfl rfl (by decide) rfl ?_
      refine r_iconst (v := (nI 0)) dX4_groupAll_57 rfl ?_
      refine r_istore_n (L' := [(2, .int (nI 0)), (1, .int (nI (x1 + 1))), (3, .int (nI 0)), (0, .ref x0), (4, .int (nI x4))]) dX4_groupAll_58 rfl (by decide) rfl ?_
      refine r_iincN 4 (b := 1) (L' := [(4, .int (nI (x4 + 1))), (2, .int (nI 0)), (1, .int (nI (x1 + 1))), (3, .int (nI 0)), (0, .ref x0)]) dX4_groupAll_59 rfl rfl (by decide) rfl ?_
      refine r_goto (tgt := 9) dX4_groupAll_62 (by decide) ?_
      exact Blk.sub [4, 2, 1, 3, 0] rfl V
    · have V := V.2 c
      refine r_iconst (v := (nI 1)) dX4_groupAll_44 rfl ?_
      refine r_goto (tgt := 49) dX4_groupAll_45 (by decide) ?_
      refine r_istore_n (L' := [(3, .int (nI 1)), (2, .int (nI (x2 + (f18 x4)))), (0, .ref x0), (1, .int (nI x1)), (4, .int (nI x4))]) dX4_groupAll_49 rfl (by decide) rfl ?_
      refine r_iload_n 0 dX4_groupAll_50 rfl rfl ?_
      refine r_if_neN (tgt := 59) dX4_groupAll_51 (by decide) (by decide) (fun _ => ?_) (fun c => absurd c (by decide))
      refine r_iincN 4 (b := 1) (L' := [(4, .int (nI (x4 + 1))), (3, .int (nI 1)), (2, .int (nI (x2 + (f18 x4)))), (0, .ref x0), (1, .int (nI x1))]) dX4_groupAll_59 rfl rfl (by decide) rfl ?_
      refine r_goto (tgt := 9) dX4_groupAll_62 (by decide) ?_
      exact Blk.sub [3, 4, 2, 1, 0] rfl V
set_option maxRecDepth 20000 in
theorem v_X4_joinToGroupBefore_0 {g : xG} {post : xPost} {h : xHp} {nx : Nat} {x0 : Nat} {x1 : Nat} (V : Blk g M_X4_joinToGroupBefore post 2 [(0, .ref x0), (1, .int (nI x1)), (2, .int (nI 0))] [] h nx 0 0) : Blk g M_X4_joinToGroupBefore post 0 [(0, .ref x0), (1, .int (nI x1))] [] h nx 0 0 := by
  refine r_iconst (v := (nI 0)) dX4_joinToGroupBefore_0 rfl ?_
  refine r_istore_n (L' := [(2, .int (nI 0)), (0, .ref x0), (1, .int (nI x1))]) dX4_joinToGroupBefore_1 rfl (by decide) rfl ?_
  exact Blk.sub [1, 2, 0] rfl V
set_option maxRecDepth 20000 in
theorem v_X4_joinToGroupBefore_2 {g : xG} {post : xPost} {h : xHp} {nx : Nat} {x0 : Nat} {x1 : Nat} {x2 : Nat} (V : (∃ (o2 : Nat) (o3 : Nat) (o4 : Nat) (o5 : Nat) (o6 : Nat) (o7 : Nat) (o8 : Nat) (o9 : Nat), h x0 = some (xo 5 [.int (nI o2), .ref o3, .ref o4, .ref o5, .ref o6, .ref o7, .int (nI o8), .int (nI o9)]) ∧ ((x2 < 2 ^ 31 ∧ o2 < 2 ^ 31) ∧ ((o2 ≤ x2 → (post none h nx)) ∧ (x2 < o2 → (∃ (N11 : Nat) (f12 : Nat → Nat), h o5 = some (xna N11 f12) ∧ x2 < N11 ∧ N11 < 2 ^ 31 ∧ (((f12 x2) < 2 ^ 31 ∧ x1 < 2 ^ 31) ∧ ((¬ (f12 x2) = x1 → Blk g M_X4_joinToGroupBefore post 2 [(0, .ref x0), (1, .int (nI x1)), (2, .int (nI (x2 + 1)))] [] h nx 0 0) ∧ ((f12 x2) = x1 → (1 ≤ x1 ∧ (x2 < N11 ∧ N11 < 2 ^ 31 ∧ Blk g M_X4_joinToGroupBefore post 2 [(0, .ref x0), (1, .int (nI x1)), (2, .int (nI (x2 + 1)))] [] (xup h o5 (xna N11 (va_up f12 x2 (x1 - 1)))) nx 0 0))))))))))) : Blk g M_X4_joinToGroupBefore post 2 [(0, .ref x0), (1, .int (nI x1)), (2, .int (nI x2))] [] h nx 0 0 := by
  refine r_iload_n 2 dX4_joinToGroupBefore_2 rfl rfl ?_
  refine r_aload_n 0 dX4_joinToGroupBefore_3 rfl rfl ?_
  obtain ⟨o2, o3, o4, o5, o6, o7, o8, o9, q1, V⟩ := V
  refine r_getf (ci := 5) (kf := 0) (T := TX4) rfl in_X4 (by decide) wF_X4_9 dX4_joinToGroupBefore_4 q1 rfl ?_
  obtain ⟨c, V⟩ := V
  refine r_icmp_geN (tgt := 35) dX4_joinToGroupBefore_7 (by decide) c (fun c => ?_) (fun c => ?_)
  · have V := V.1 c
    exact r_vret dX4_joinToGroupBefore_35 rfl (by decide) (by decide) V
  · have V := V.2 c
    refine r_aload_n 0 dX4_joinToGroupBefore_10 rfl rfl ?_
    refine r_getf (ci := 5) (kf := 3) (T := TX4) rfl in_X4 (by decide) wF_X4_22 dX4_joinToGroupBefore_11 q1 rfl ?_
    refine r_iload_n 2 dX4_joinToGroupBefore_14 rfl rfl ?_
    obtain ⟨N11, f12, q10, V⟩ := V
    obtain ⟨c, cN, V⟩ := V
    refine r_iald dX4_joinToGroupBefore_15 q10 rfl c cN ?_
    show Blk g M_X4_joinToGroupBefore post 16 [(0, .ref x0), (1, .int (nI x1)), (2, .int (nI x2))] [.int (nI (f12 x2))] h nx 0 0
    refine r_iload_n 1 dX4_joinToGroupBefore_16 rfl rfl ?_
    obtain ⟨c, V⟩ := V
    refine r_icmp_neN (tgt := 29) dX4_joinToGroupBefore_17 (by decide) c (fun c => ?_) (fun c => ?_)
    · have V := V.1 c
      refine r_iincN 2 (b := 1) (L' := [(2, .int (nI (x2 + 1))), (0, .ref x0), (1, .int (nI x1))]) dX4_joinToGroupBefore_29 rfl rfl (by decide) rfl ?_
      refine r_goto (tgt := 2) dX4_joinToGroupBefore_32 (by decide) ?_
      exact Blk.sub [1, 2, 0] rfl V
    · have V := V.2 c
      refine r_aload_n 0 dX4_joinToGroupBefore_20 rfl rfl ?_
      refine r_getf (ci := 5) (kf := 3) (T := TX4) rfl in_X4 (by decide) wF_X4_22 dX4_joinToGroupBefore_21 q1 rfl ?_
      refine r_iload_n 2 dX4_joinToGroupBefore_24 rfl rfl ?_
      refine r_iload_n 1 dX4_joinToGroupBefore_25 rfl rfl ?_
      refine r_iconst (v := (nI 1)) dX4_joinToGroupBefore_26 rfl ?_
      obtain ⟨c, V⟩ := V
      refine r_isubN dX4_joinToGroupBefore_27 c ?_
      obtain ⟨c, cN, V⟩ := V
      refine r_iastN dX4_joinToGroupBefore_28 q10 c cN ?_
      show Blk g M_X4_joinToGroupBefore post 29 [(0, .ref x0), (1, .int (nI x1)), (2, .int (nI x2))] [] (xup h o5 (xna N11 (va_up f12 x2 (x1 - 1)))) nx 0 0
      refine r_iincN 2 (b := 1) (L' := [(2, .int (nI (x2 + 1))), (0, .ref x0), (1, .int (nI x1))]) dX4_joinToGroupBefore_29 rfl rfl (by decide) rfl ?_
      refine r_goto (tgt := 2) dX4_joinToGroupBefore_32 (by decide) ?_
      exact Blk.sub [1, 2, 0] rfl V
set_option maxRecDepth 20000 in
theorem v_X4_shareOut_0 {g : xG} {post : xPost} {h : xHp} {nx : Nat} {x0 : Nat} {x1 : Nat} (V : Blk g M_X4_shareOut post 4 [(0, .ref x0), (1, .int (nI x1)), (2, .int (nI 0)), (3, .int (nI 0))] [] h nx 0 0) : Blk g M_X4_shareOut post 0 [(0, .ref x0), (1, .int (nI x1))] [] h nx 0 0 := by
  refine r_iconst (v := (nI 0)) dX4_shareOut_0 rfl ?_
  refine r_istore_n (L' := [(2, .int (nI 0)), (0, .ref x0), (1, .int (nI x1))]) dX4_shareOut_1 rfl (by decide) rfl ?_
  refine r_iconst (v := (nI 0)) dX4_shareOut_2 rfl ?_
  refine r_istore_n (L' := [(3, .int (nI 0)), (2, .int (nI 0)), (0, .ref x0), (1, .int (nI x1))]) dX4_shareOut_3 rfl (by decide) rfl ?_
  exact Blk.sub [2, 3, 1, 0] rfl V
set_option maxRecDepth 20000 in
theorem v_X4_shareOut_4 {g : xG} {post : xPost} {h : xHp} {nx : Nat} {x0 : Nat} {x1 : Nat} {x2 : Nat} {x3 : Nat} (V : (∃ (o2 : Nat) (o3 : Nat) (o4 : Nat) (o5 : Nat) (o6 : Nat) (o7 : Nat) (o8 : Nat) (o9 : Nat), h x0 = some (xo 5 [.int (nI o2), .ref o3, .ref o4, .ref o5, .ref o6, .ref o7, .int (nI o8), .int (nI o9)]) ∧ ((x3 < 2 ^ 31 ∧ o2 < 2 ^ 31) ∧ ((o2 ≤ x3 → Blk g M_X4_shareOut post 31 [(0, .ref x0), (1, .int (nI x1)), (2, .int (nI x2)), (3, .int (nI 0))] [] h nx 0 0) ∧ (x3 < o2 → (Ct g M_X4_movesInGroup [.ref x0, .int (nI x1), .int ((nI x3) - (nI x1))] h nx (fun r h10 n11 => ∃ v12 : Nat, r = some (.int (nI v12)) ∧ Blk g M_X4_shareOut post 4 [(0, .ref x0), (1, .int (nI x1)), (2, .int (nI (x2 + v12))), (3, .int (nI (x3 + 1)))] [] h10 n11 0 0))))))) : Blk g M_X4_shareOut post 4 [(0, .ref x0), (1, .int (nI x1)), (2, .int (nI x2)), (3, .int (nI x3))] [] h nx 0 0 := by
  refine r_iload_n 3 dX4_shareOut_4 rfl rfl ?_
  refine r_aload_n 0 dX4_shareOut_5 rfl rfl ?_
  obtain ⟨o2, o3, o4, o5, o6, o7, o8, o9, q1, V⟩ := V
  refine r_getf (ci := 5) (kf := 0) (T := TX4) rfl in_X4 (by decide) wF_X4_9 dX4_shareOut_6 q1 rfl ?_
  obtain ⟨c, V⟩ := V
  refine r_icmp_geN (tgt := 29) dX4_shareOut_9 (by decide) c (fun c => ?_) (fun c => ?_)
  · have V := V.1 c
    refine r_iconst (v := (nI 0)) dX4_shareOut_29 rfl ?_
    refine r_istore_n (L' := [(3, .int (nI 0)), (0, .ref x0), (1, .int (nI x1)), (2, .int (nI x2))]) dX4_shareOut_30 rfl (by decide) rfl ?_
    exact Blk.sub [1, 2, 3, 0] rfl V
  · have V := V.2 c
    refine r_iload_n 2 dX4_shareOut_12 rfl rfl ?_
    refine r_aload_n 0 dX4_shareOut_13 rfl rfl ?_
    refine r_iload_n 1 dX4_shareOut_14 rfl rfl ?_
    refine r_iload_n 3 dX4_shareOut_15 rfl rfl ?_
    refine r_iload_n 1 dX4_shareOut_16 rfl rfl ?_
    refine r_isub dX4_shareOut_17 ?_
    refine r_callV (M2 := M_X4_movesInGroup) (ci := 5) (n := 2) (As := [.int (nI x1), .int ((nI x3) - (nI x1))]) rfl (wl5 wM_X4_58 wi_X4_movesInGroup wS_X4_movesInGroup wI_StateShares_Moves wc_X4_movesInGroup) (by decide +kernel) (by decide) rfl rfl (Nat.le_of_ble_eq_true rfl) dX4_shareOut_18 q1 (by decide) (by decide) (Ct.imp V (fun r h10 n11 V => ?_))
    obtain ⟨v12, rfl, V⟩ := V
    show Blk g M_X4_shareOut post 21 [(0, .ref x0), (1, .int (nI x1)), (2, .int (nI x2)), (3, .int (nI x3))] [.int (nI v12), .int (nI x2)] h10 n11 0 0
    refine r_iaddN dX4_shareOut_21 ?_
    refine r_istore_n (L' := [(2, .int (nI (x2 + v12))), (0, .ref x0), (1, .int (nI x1)), (3, .int (nI x3))]) dX4_shareOut_22 rfl (by decide) rfl ?_
    refine r_iincN 3 (b := 1) (L' := [(3, .int (nI (x3 + 1))), (2, .int (nI (x2 + v12))), (0, .ref x0), (1, .int (nI x1))]) dX4_shareOut_23 rfl rfl (by decide) rfl ?_
    refine r_goto (tgt := 4) dX4_shareOut_26 (by decide) ?_
    exact Blk.sub [2, 3, 1, 0] rfl V
set_option maxRecDepth 20000 in
theorem v_X4_shareOut_31 {g : xG} {post : xPost} {h : xHp} {nx : Nat} {x0 : Nat} {x1 : Nat} {x2 : Nat} {x3 : Nat} (V : (∃ (o2 : Nat) (o3 : Nat) (o4 : Nat) (o5 : Nat) (o6 : Nat) (o7 : Nat) (o8 : Nat) (o9 : Nat), h x0 = some (xo 5 [.int (nI o2), .ref o3, .ref o4, .ref o5, .ref o6, .ref o7, .int (nI o8), .int (nI o9)]) ∧ ((x3 < 2 ^ 31 ∧ o2 < 2 ^ 31) ∧ ((o2 ≤ x3 → ((1 < 2 ^ 31 ∧ x2 < 2 ^ 31) ∧ (∃ (N11 : Nat) (f12 : Nat → Nat), h o7 = some (xna N11 f12) ∧ x1 < N11 ∧ N11 < 2 ^ 31 ∧ (post none (xup h o7 (xna N11 (va_up f12 x1 (max 1 x2)))) nx)))) ∧ (x3 < o2 → ((x3 < 2 ^ 31 ∧ x1 < 2 ^ 31) ∧ ((¬ x3 = x1 → (x2 < 2 ^ 31 ∧ ((¬ x2 = 0 → (Ct g M_X4_movesInGroup [.ref x0, .int (nI x1), .int ((nI x3) - (nI x1))] h nx (fun r h13 n14 => ∃ v15 : Nat, r = some (.int (nI v15)) ∧ (∃ (o19 : Nat) (o20 : Nat) (o21 : Nat) (o22 : Nat) (o23 : Nat) (o24 : Nat) (o25 : Nat) (o26 : Nat), h13 x0 = some (xo 5 [.int (nI o19), .ref o20, .ref o21, .ref o22, .ref o23, .ref o24, .int (nI o25), .int (nI o26)]) ∧ Ct g M_X4_setTop [.ref x0, .int (nI ((x1 * 6) + x3)), .int (nI v15)] h13 n14 (fun r h16 n17 => r = none ∧ Blk g M_X4_shareOut post 31 [(0, .ref x0), (1, .int (nI x1)), (2, .int (nI x2)), (3, .int (nI (x3 + 1)))] [] h16 n17 0 0))))) ∧ (x2 = 0 → (Ct g M_X4_setTop [.ref x0, .int (nI ((x1 * 6) + x3)), .int (nI 0)] h nx (fun r h27 n28 => r = none ∧ Blk g M_X4_shareOut post 31 [(0, .ref x0), (1, .int (nI x1)), (2, .int (nI x2)), (3, .int (nI (x3 + 1)))] [] h27 n28 0 0)))))) ∧ (x3 = x1 → (x2 < 2 ^ 31 ∧ ((¬ x2 = 0 → (Ct g M_X4_movesInGroup [.ref x0, .int (nI x1), .int ((nI x3) - (nI x1))] h nx (fun r h29 n30 => ∃ v31 : Nat, r = some (.int (nI v31)) ∧ (∃ (o35 : Nat) (o36 : Nat) (o37 : Nat) (o38 : Nat) (o39 : Nat) (o40 : Nat) (o41 : Nat) (o42 : Nat), h29 x0 = some (xo 5 [.int (nI o35), .ref o36, .ref o37, .ref o38, .ref o39, .ref o40, .int (nI o41), .int (nI o42)]) ∧ Ct g M_X4_setTop [.ref x0, .int (nI ((x1 * 6) + x3)), .int (nI v31)] h29 n30 (fun r h32 n33 => r = none ∧ Blk g M_X4_shareOut post 31 [(0, .ref x0), (1, .int (nI x1)), (2, .int (nI x2)), (3, .int (nI (x3 + 1)))] [] h32 n33 0 0))))) ∧ (x2 = 0 → (Ct g M_X4_setTop [.ref x0, .int (nI ((x1 * 6) + x3)), .int (nI 1)] h nx (fun r h43 n44 => r = none ∧ Blk g M_X4_shareOut post 31 [(0, .ref x0), (1, .int (nI x1)), (2, .int (nI x2)), (3, .int (nI (x3 + 1)))] [] h43 n44 0 0))))))))))))) : Blk g M_X4_shareOut post 31 [(0, .ref x0), (1, .int (nI x1)), (2, .int (nI x2)), (3, .int (nI x3))] [] h nx 0 0 := by
  refine r_iload_n 3 dX4_shareOut_31 rfl rfl ?_
  refine r_aload_n 0 dX4_shareOut_32 rfl rfl ?_
  obtain ⟨o2, o3, o4, o5, o6, o7, o8, o9, q1, V⟩ := V
  refine r_getf (ci := 5) (kf := 0) (T := TX4) rfl in_X4 (by decide) wF_X4_9 dX4_shareOut_33 q1 rfl ?_
  obtain ⟨c, V⟩ := V
  refine r_icmp_geN (tgt := 84) dX4_shareOut_36 (by decide) c (fun c => ?_) (fun c => ?_)
  · have V := V.1 c
    refine r_aload_n 0 dX4_shareOut_84 rfl rfl ?_
    refine r_getf (ci := 5) (kf := 5) (T := TX4) rfl in_X4 (by decide) wF_X4_28 dX4_shareOut_85 q1 rfl ?_
    refine r_iload_n 1 dX4_shareOut_88 rfl rfl ?_
    refine r_iconst (v := (nI 1)) dX4_shareOut_89 rfl ?_
    refine r_iload_n 2 dX4_shareOut_90 rfl rfl ?_
    refine r_mmax wM_X4_65 ws_J9_max_7cf53 wI_java_lang_Math wc_J9_max_7cf53 dX4_shareOut_91 (by decide) (Nat.le_of_ble_eq_true rfl) (by decide) (by decide) ?_
    obtain ⟨c, V⟩ := V
    rw [n_max c.1 c.2]
    show Blk g M_X4_shareOut post 94 [(0, .ref x0), (1, .int (nI x1)), (2, .int (nI x2)), (3, .int (nI x3))] [.int (nI (max 1 x2)), .int (nI x1), .ref o7] h nx 0 0
    obtain ⟨N11, f12, q10, V⟩ := V
    obtain ⟨c, cN, V⟩ := V
    refine r_iastN dX4_shareOut_94 q10 c cN ?_
    show Blk g M_X4_shareOut post 95 [(0, .ref x0), (1, .int (nI x1)), (2, .int (nI x2)), (3, .int (nI x3))] [] (xup h o7 (xna N11 (va_up f12 x1 (max 1 x2)))) nx 0 0
    exact r_vret dX4_shareOut_95 rfl (by decide) (by decide) V
  · have V := V.2 c
    refine r_iload_n 3 dX4_shareOut_39 rfl rfl ?_
    refine r_iload_n 1 dX4_shareOut_40 rfl rfl ?_
    obtain ⟨c, V⟩ := V
    refine r_icmp_neN (tgt := 48) dX4_shareOut_41 (by decide) c (fun c => ?_) (fun c => ?_)
    · have V := V.1 c
      refine r_iconst (v := (nI 0)) dX4_shareOut_48 rfl ?_
      refine r_istore (L' := [(4, .int (nI 0)), (0, .ref x0), (1, .int (nI x1)), (2, .int (nI x2)), (3, .int (nI x3))]) dX4_shareOut_49 (by decide) rfl ?_
      refine r_aload_n 1 dX4_shareOut_51 rfl rfl ?_
      refine r_iload_n 2 dX4_shareOut_52 rfl rfl ?_
      refine r_bipush (v := (nI 6)) dX4_shareOut_53 rfl ?_
      refine r_imulN dX4_shareOut_55 ?_
      refine r_iload_n 4 dX4_shareOut_56 rfl rfl ?_
      refine r_iaddN dX4_shareOut_57 ?_
      refine r_iload_n 3 dX4_shareOut_58 rfl rfl ?_
      obtain ⟨c, V⟩ := V
      refine r_if_neN (tgt := 67) dX4_shareOut_59 (by decide) c (fun c => ?_) (fun c => ?_)
      · have V := V.1 c
        refine r_aload_n 1 dX4_shareOut_67 rfl rfl ?_
        refine r_iload_n 2 dX4_shareOut_68 rfl rfl ?_
        refine r_iload_n 4 dX4_shareOut_69 rfl rfl ?_
        refine r_iload_n 2 dX4_shareOut_70 rfl rfl ?_
        refine r_isub dX4_shareOut_71 ?_
        refine r_callV (M2 := M_X4_movesInGroup) (ci := 5) (n := 2) (As := [.int (nI x1), .int ((nI x3) - (nI x1))]) rfl (wl5 wM_X4_58 wi_X4_movesInGroup wS_X4_movesInGroup wI_StateShares_Moves wc_X4_movesInGroup) (by decide +kernel) (by decide) rfl rfl (Nat.le_of_ble_eq_true rfl) dX4_shareOut_72 q1 (by decide) (by decide) (Ct.imp V (fun r h13 n14 V => ?_))
        obtain ⟨v15, rfl, V⟩ := V
        show Blk g M_X4_shareOut post 75 [(4, .int (nI 0)), (0, .ref x0), (1, .int (nI x1)), (2, .int (nI x2)), (3, .int (nI x3))] [.int (nI v15), .int (nI ((x1 * 6) + x3)), .ref x0] h13 n14 0 0
        obtain ⟨o19, o20, o21, o22, o23, o24, o25, o26, q18, V⟩ := V
        refine r_callV (M2 := M_X4_setTop) (ci := 5) (n := 2) (As := [.int (nI ((x1 * 6) + x3)), .int (nI v15)]) rfl (wl5 wM_X4_61 wi_X4_setTop wS_X4_setTop wI_StateShares_Moves wc_X4_setTop) (by decide +kernel) (by decide) rfl rfl (Nat.le_of_ble_eq_true rfl) dX4_shareOut_75 q18 (by decide) (by decide) (Ct.imp V (fun r h16 n17 V => ?_))
        obtain ⟨rfl, V⟩ := V
        show Blk g M_X4_shareOut post 78 [(4, .int (nI 0)), (0, .ref x0), (1, .int (nI x1)), (2, .int (nI x2)), (3, .int (nI x3))] [] h16 n17 0 0
        refine r_iincN 4 (b := 1) (L' := [(3, .int (nI (x3 + 1))), (4, .int (nI 0)), (0, .ref x0), (1, .int (nI x1)), (2, .int (nI x2))]) dX4_shareOut_78 rfl rfl (by decide) rfl ?_
        refine r_goto (tgt := 31) dX4_shareOut_81 (by decide) ?_
        exact Blk.sub [2, 3, 4, 0] rfl V
      · have V := V.2 c
        refine r_iload 0 dX4_shareOut_62 rfl ?_
        refine r_goto (tgt := 75) dX4_shareOut_64 (by decide) ?_
        refine r_callV (M2 := M_X4_setTop) (ci := 5) (n := 2) (As := [.int (nI ((x1 * 6) + x3)), .int (nI 0)]) rfl (wl5 wM_X4_61 wi_X4_setTop wS_X4_setTop wI_StateShares_Moves wc_X4_setTop) (by decide +kernel) (by decide) rfl rfl (Nat.le_of_ble_eq_true rfl) dX4_shareOut_75 q1 (by decide) (by decide) (Ct.imp V (fun r h27 n28 V => ?_))
        obtain ⟨rfl, V⟩ := V
        show Blk g M_X4_shareOut post 78 [(4, .int (nI 0)), (0, .ref x0), (1, .int (nI x1)), (2, .int (nI x2)), (3, .int (nI x3))] [] h27 n28 0 0
        refine r_iincN 4 (b := 1) (L' := [(3, .int (nI (x3 + 1))), (4, .int (nI 0)), (0, .ref x0), (1, .int (nI x1)), (2, .int (nI x2))]) dX4_shareOut_78 rfl rfl (by decide) rfl ?_
        refine r_goto (tgt := 31) dX4_shareOut_81 (by decide) ?_
        exact Blk.sub [2, 3, 4, 0] rfl V
    · have V := V.2 c
      refine r_iconst (v := (nI 1)) dX4_shareOut_44 rfl ?_
      refine r_goto (tgt := 49) dX4_shareOut_45 (by decide) ?_
      refine r_istore (L' := [(4, .int (nI 1)), (0, .ref x0), (1, .int (nI x1)), (2, .int (nI x2)), (3, .int (nI x3))]) dX4_shareOut_49 (by decide) rfl ?_
      refine r_aload_n 1 dX4_shareOut_51 rfl rfl ?_
      refine r_iload_n 2 dX4_shareOut_52 rfl rfl ?_
      refine r_bipush (v := (nI 6)) dX4_shareOut_53 rfl ?_
      refine r_imulN dX4_shareOut_55 ?_
      refine r_iload_n 4 dX4_shareOut_56 rfl rfl ?_
      refine r_iaddN dX4_shareOut_57 ?_
      refine r_iload_n 3 dX4_shareOut_58 rfl rfl ?_
      obtain ⟨c, V⟩ := V
      refine r_if_neN (tgt := 67) dX4_shareOut_59 (by decide) c (fun c => ?_) (fun c => ?_)
      · have V := V.1 c
        refine r_aload_n 1 dX4_shareOut_67 rfl rfl ?_
        refine r_iload_n 2 dX4_shareOut_68 rfl rfl ?_
        refine r_iload_n 4 dX4_shareOut_69 rfl rfl ?_
        refine r_iload_n 2 dX4_shareOut_70 rfl rfl ?_
        refine r_isub dX4_shareOut_71 ?_
        refine r_callV (M2 := M_X4_movesInGroup) (ci := 5) (n := 2) (As := [.int (nI x1), .int ((nI x3) - (nI x1))]) rfl (wl5 wM_X4_58 wi_X4_movesInGroup wS_X4_movesInGroup wI_StateShares_Moves wc_X4_movesInGroup) (by decide +kernel) (by decide) rfl rfl (Nat.le_of_ble_eq_true rfl) dX4_shareOut_72 q1 (by decide) (by decide) (Ct.imp V (fun r h29 n30 V => ?_))
        obtain ⟨v31, rfl, V⟩ := V
        show Blk g M_X4_shareOut post 75 [(4, .int (nI 1)), (0, .ref x0), (1, .int (nI x1)), (2, .int (nI x2)), (3, .int (nI x3))] [.int (nI v31), .int (nI ((x1 * 6) + x3)), .ref x0] h29 n30 0 0
        obtain ⟨o35, o36, o37, o38, o39, o40, o41, o42, q34, V⟩ := V
        refine r_callV (M2 := M_X4_setTop) (ci := 5) (n := 2) (As := [.int (nI ((x1 * 6) + x3)), .int (nI v31)]) rfl (wl5 wM_X4_61 wi_X4_setTop wS_X4_setTop wI_StateShares_Moves wc_X4_setTop) (by decide +kernel) (by decide) rfl rfl (Nat.le_of_ble_eq_true rfl) dX4_shareOut_75 q34 (by decide) (by decide) (Ct.imp V (fun r h32 n33 V => ?_))
        obtain ⟨rfl, V⟩ := V
        show Blk g M_X4_shareOut post 78 [(4, .int (nI 1)), (0, .ref x0), (1, .int (nI x1)), (2, .int (nI x2)), (3, .int (nI x3))] [] h32 n33 0 0
        refine r_iincN 4 (b := 1) (L' := [(3, .int (nI (x3 + 1))), (4, .int (nI 1)), (0, .ref x0), (1, .int (nI x1)), (2, .int (nI x2))]) dX4_shareOut_78 rfl rfl (by decide) rfl ?_
        refine r_goto (tgt := 31) dX4_shareOut_81 (by decide) ?_
        exact Blk.sub [2, 3, 4, 0] rfl V
      · have V := V.2 c
        refine r_iload 0 dX4_shareOut_62 rfl ?_
        refine r_goto (tgt := 75) dX4_shareOut_64 (by decide) ?_
        refine r_callV (M2 := M_X4_setTop) (ci := 5) (n := 2) (As := [.int (nI ((x1 * 6) + x3)), .int (nI 1)]) rfl (wl5 wM_X4_61 wi_X4_setTop wS_X4_setTop wI_StateShares_Moves wc_X4_setTop) (by decide +kernel) (by decide) rfl rfl (Nat.le_of_ble_eq_true rfl) dX4_shareOut_75 q1 (by decide) (by decide) (Ct.imp V (fun r h43 n44 V => ?_))
        obtain ⟨rfl, V⟩ := V
        show Blk g M_X4_shareOut post 78 [(4, .int (nI 1)), (0, .ref x0), (1, .int (nI x1)), (2, .int (nI x2)), (3, .int (nI x3))] [] h43 n44 0 0
        refine r_iincN 4 (b := 1) (L' := [(3, .int (nI (x3 + 1))), (4, .int (nI 1)), (0, .ref x0), (1, .int (nI x1)), (2, .int (nI x2))]) dX4_shareOut_78 rfl rfl (by decide) rfl ?_
        refine r_goto (tgt := 31) dX4_shareOut_81 (by decide) ?_
        exact Blk.sub [2, 3, 4, 0] rfl V
set_option maxRecDepth 20000 in
theorem v_X4_setTop_0 {g : xG} {post : xPost} {h : xHp} {nx : Nat} {x0 : Nat} {x1 : Nat} {x2 : Nat} (V : (∃ (o2 : Nat) (o3 : Nat) (o4 : Nat) (o5 : Nat) (o6 : Nat) (o7 : Nat) (o8 : Nat) (o9 : Nat), h x0 = some (xo 5 [.int (nI o2), .ref o3, .ref o4, .ref o5, .ref o6, .ref o7, .int (nI o8), .int (nI o9)]) ∧ (∃ (N11 : Nat) (f12 : Nat → Nat), h o6 = some (xna N11 f12) ∧ x1 < N11 ∧ N11 < 2 ^ 31 ∧ (((f12 x1) < 2 ^ 31 ∧ x2 < 2 ^ 31) ∧ (((f12 x1) = x2 → (post none h nx)) ∧ (¬ (f12 x1) = x2 → (x1 < N11 ∧ N11 < 2 ^ 31 ∧ (post none (xup (xup h o6 (xna N11 (va_up f12 x1 x2))) x0 (xo 5 [.int (nI o2), .ref o3, .ref o4, .ref o5, .ref o6, .ref o7, .int (nI o8), .int (nI 1)])) nx)))))))) : Blk g M_X4_setTop post 0 [(0, .ref x0), (1, .int (nI x1)), (2, .int (nI x2))] [] h nx 0 0 := by
  refine r_aload_n 0 dX4_setTop_0 rfl rfl ?_
  obtain ⟨o2, o3, o4, o5, o6, o7, o8, o9, q1, V⟩ := V
  refine r_getf (ci := 5) (kf := 4) (T := TX4) rfl in_X4 (by decide) wF_X4_25 dX4_setTop_1 q1 rfl ?_
  refine r_iload_n 1 dX4_setTop_4 rfl rfl ?_
  obtain ⟨N11, f12, q10, V⟩ := V
  obtain ⟨c, cN, V⟩ := V
  refine r_iald dX4_setTop_5 q10 rfl c cN ?_
  show Blk g M_X4_setTop post 6 [(0, .ref x0), (1, .int (nI x1)), (2, .int (nI x2))] [.int (nI (f12 x1))] h nx 0 0
  refine r_iload_n 2 dX4_setTop_6 rfl rfl ?_
  obtain ⟨c, V⟩ := V
  refine r_icmp_eqN (tgt := 22) dX4_setTop_7 (by decide) c (fun c => ?_) (fun c => ?_)
  · have V := V.1 c
    exact r_vret dX4_setTop_22 rfl (by decide) (by decide) V
  · have V := V.2 c
    refine r_aload_n 0 dX4_setTop_10 rfl rfl ?_
    refine r_getf (ci := 5) (kf := 4) (T := TX4) rfl in_X4 (by decide) wF_X4_25 dX4_setTop_11 q1 rfl ?_
    refine r_iload_n 1 dX4_setTop_14 rfl rfl ?_
    refine r_iload_n 2 dX4_setTop_15 rfl rfl ?_
    obtain ⟨c, cN, V⟩ := V
    refine r_iastN dX4_setTop_16 q10 c cN ?_
    show Blk g M_X4_setTop post 17 [(0, .ref x0), (1, .int (nI x1)), (2, .int (nI x2))] [] (xup h o6 (xna N11 (va_up f12 x1 x2))) nx 0 0
    refine r_aload_n 0 dX4_setTop_17 rfl rfl ?_
    refine r_iconst (v := (nI 1)) dX4_setTop_18 rfl ?_
    have q13 : (xup h o6 (xna N11 (va_up f12 x1 x2))) x0 = some (xo 5 [.int (nI o2), .ref o3, .ref o4, .ref o5, .ref o6, .ref o7, .int (nI o8), .int (nI o9)]) := (xup_n (x_apart q1 q10 x_oa)).trans q1
    refine r_putf (ci := 5) (kf := 7) (T := TX4) rfl in_X4 tyX4_ok nmX4 (by decide) wF_X4_34 rfl (tyX4_ok 7 (by decide)) dX4_setTop_19 q13 (Nat.le_of_ble_eq_true rfl) rfl rfl ?_
    show Blk g M_X4_setTop post 22 [(0, .ref x0), (1, .int (nI x1)), (2, .int (nI x2))] [] (xup (xup h o6 (xna N11 (va_up f12 x1 x2))) x0 (xo 5 [.int (nI o2), .ref o3, .ref o4, .ref o5, .ref o6, .ref o7, .int (nI o8), .int (nI 1)])) nx 0 0
    exact r_vret dX4_setTop_22 rfl (by decide) (by decide) V
set_option maxRecDepth 20000 in
theorem v_X4_movesInGroup_0 {g : xG} {post : xPost} {h : xHp} {nx : Nat} {x0 : Nat} {x1 : Nat} {x2 : Int32} (V : Blk g M_X4_movesInGroup post 5 [(0, .ref x0), (1, .int (nI x1)), (2, .int x2), (3, .int (nI 0)), (4, .int (nI 0))] [] h nx 0 0) : Blk g M_X4_movesInGroup post 0 [(0, .ref x0), (1, .int (nI x1)), (2, .int x2)] [] h nx 0 0 := by
  refine r_iconst (v := (nI 0)) dX4_movesInGroup_0 rfl ?_
  refine r_istore_n (L' := [(3, .int (nI 0)), (0, .ref x0), (1, .int (nI x1)), (2, .int x2)]) dX4_movesInGroup_1 rfl (by decide) rfl ?_
  refine r_iconst (v := (nI 0)) dX4_movesInGroup_2 rfl ?_
  refine r_istore (L' := [(4, .int (nI 0)), (3, .int (nI 0)), (0, .ref x0), (1, .int (nI x1)), (2, .int x2)]) dX4_movesInGroup_3 (by decide) rfl ?_
  exact Blk.sub [2, 3, 4, 1, 0] rfl V
set_option maxRecDepth 20000 in
theorem v_X4_movesInGroup_5 {g : xG} {post : xPost} {h : xHp} {nx : Nat} {x0 : Nat} {x1 : Nat} {x2 : Int32} {x3 : Nat} {x4 : Nat} (V : (∃ (o2 : Nat) (o3 : Nat) (o4 : Nat) (o5 : Nat) (o6 : Nat) (o7 : Nat) (o8 : Nat) (o9 : Nat), h x0 = some (xo 5 [.int (nI o2), .ref o3, .ref o4, .ref o5, .ref o6, .ref o7, .int (nI o8), .int (nI o9)]) ∧ ((x4 < 2 ^ 31 ∧ o2 < 2 ^ 31) ∧ ((o2 ≤ x4 → (post (some (.int (nI x3))) h nx)) ∧ (x4 < o2 → (∃ (N11 : Nat) (f12 : Nat → Nat), h o5 = some (xna N11 f12) ∧ x4 < N11 ∧ N11 < 2 ^ 31 ∧ (x1 < N11 ∧ N11 < 2 ^ 31 ∧ (((f12 x4) < 2 ^ 31 ∧ (f12 x1) < 2 ^ 31) ∧ ((¬ (f12 x4) = (f12 x1) → Blk g M_X4_movesInGroup post 5 [(0, .ref x0), (1, .int (nI x1)), (2, .int x2), (3, .int (nI x3)), (4, .int (nI (x4 + 1)))] [] h nx 0 0) ∧ ((f12 x4) = (f12 x1) → ((((nI x4) + x2) < 0 → Blk g M_X4_movesInGroup post 5 [(0, .ref x0), (1, .int (nI x1)), (2, .int x2), (3, .int (nI x3)), (4, .int (nI (x4 + 1)))] [] h nx 0 0) ∧ (¬ ((nI x4) + x2) < 0 → (((nI o2) ≤ ((nI x4) + x2) → Blk g M_X4_movesInGroup post 5 [(0, .ref x0), (1, .int (nI x1)), (2, .int x2), (3, .int (nI x3)), (4, .int (nI (x4 + 1)))] [] h nx 0 0) ∧ (¬ (nI o2) ≤ ((nI x4) + x2) → (∃ (N14 : Nat) (f15 : Nat → Nat), h o3 = some (xna N14 f15) ∧ ∃ j16 : Nat, ((nI (x4 * 6)) + ((nI x4) + x2)) = nI j16 ∧ j16 < N14 ∧ N14 < 2 ^ 31 ∧ Blk g M_X4_movesInGroup post 5 [(0, .ref x0), (1, .int (nI x1)), (2, .int x2), (3, .int (nI (x3 + (f15 j16)))), (4, .int (nI (x4 + 1)))] [] h nx 0 0))))))))))))))) : Blk g M_X4_movesInGroup post 5 [(0, .ref x0), (1, .int (nI x1)), (2, .int x2), (3, .int (nI x3)), (4, .int (nI x4))] [] h nx 0 0 := by
  refine r_iload 4 dX4_movesInGroup_5 rfl ?_
  refine r_aload_n 0 dX4_movesInGroup_7 rfl rfl ?_
  obtain ⟨o2, o3, o4, o5, o6, o7, o8, o9, q1, V⟩ := V
  refine r_getf (ci := 5) (kf := 0) (T := TX4) rfl in_X4 (by decide) wF_X4_9 dX4_movesInGroup_8 q1 rfl ?_
  obtain ⟨c, V⟩ := V
  refine r_icmp_geN (tgt := 72) dX4_movesInGroup_11 (by decide) c (fun c => ?_) (fun c => ?_)
  · have V := V.1 c
    refine r_iload_n 3 dX4_movesInGroup_72 rfl rfl ?_
    exact r_iret dX4_movesInGroup_73 rfl (by decide) (by decide) V
  · have V := V.2 c
    refine r_iload 4 dX4_movesInGroup_14 rfl ?_
    refine r_iload_n 2 dX4_movesInGroup_16 rfl rfl ?_
    refine r_iadd dX4_movesInGroup_17 ?_
    refine r_istore (L' := [(5, .int ((nI x4) + x2)), (0, .ref x0), (1, .int (nI x1)), (2, .int x2), (3, .int (nI x3)), (4, .int (nI x4))]) dX4_movesInGroup_18 (by decide) rfl ?_
    refine r_aload_n 1 dX4_movesInGroup_20 rfl rfl ?_
    refine r_getf (ci := 5) (kf := 3) (T := TX4) rfl in_X4 (by decide) wF_X4_22 dX4_movesInGroup_21 q1 rfl ?_
    refine r_iload 5 dX4_movesInGroup_24 rfl ?_
    obtain ⟨N11, f12, q10, V⟩ := V
    obtain ⟨c, cN, V⟩ := V
    refine r_iald dX4_movesInGroup_26 q10 rfl c cN ?_
    show Blk g M_X4_movesInGroup post 27 [(5, .int ((nI x4) + x2)), (0, .ref x0), (1, .int (nI x1)), (2, .int x2), (3, .int (nI x3)), (4, .int (nI x4))] [.int (nI (f12 x4))] h nx 0 0
    refine r_aload_n 1 dX4_movesInGroup_27 rfl rfl ?_
    refine r_getf (ci := 5) (kf := 3) (T := TX4) rfl in_X4 (by decide) wF_X4_22 dX4_movesInGroup_28 q1 rfl ?_
    refine r_iload_n 2 dX4_movesInGroup_31 rfl rfl ?_
    obtain ⟨c, cN, V⟩ := V
    refine r_iald dX4_movesInGroup_32 q10 rfl c cN ?_
    show Blk g M_X4_movesInGroup post 33 [(5, .int ((nI x4) + x2)), (0, .ref x0), (1, .int (nI x1)), (2, .int x2), (3, .int (nI x3)), (4, .int (nI x4))] [.int (nI (f12 x1)), .int (nI (f12 x4))] h nx 0 0
    obtain ⟨c, V⟩ := V
    refine r_icmp_neN (tgt := 66) dX4_movesInGroup_33 (by decide) c (fun c => ?_) (fun c => ?_)
    · have V := V.1 c
      refine r_iincN 5 (b := 1) (L' := [(4, .int (nI (x4 + 1))), (5, .int ((nI x4) + x2)), (0, .ref x0), (1, .int (nI x1)), (2, .int x2), (3, .int (nI x3))]) dX4_movesInGroup_66 rfl rfl (by decide) rfl ?_
      refine r_goto (tgt := 5) dX4_movesInGroup_69 (by decide) ?_
      exact Blk.sub [2, 3, 4, 5, 0] rfl V
    · have V := V.2 c
      refine r_iload 0 dX4_movesInGroup_36 rfl ?_
      refine r_if_lt (tgt := 66) dX4_movesInGroup_38 (by decide) (fun c => ?_) (fun c => ?_)
      · have V := V.1 c
        refine r_iincN 5 (b := 1) (L' := [(4, .int (nI (x4 + 1))), (5, .int ((nI x4) + x2)), (0, .ref x0), (1, .int (nI x1)), (2, .int x2), (3, .int (nI x3))]) dX4_movesInGroup_66 rfl rfl (by decide) rfl ?_
        refine r_goto (tgt := 5) dX4_movesInGroup_69 (by decide) ?_
        exact Blk.sub [2, 3, 4, 5, 0] rfl V
      · have V := V.2 c
        refine r_iload 0 dX4_movesInGroup_41 rfl ?_
        refine r_aload_n 1 dX4_movesInGroup_43 rfl rfl ?_
        refine r_getf (ci := 5) (kf := 0) (T := TX4) rfl in_X4 (by decide) wF_X4_9 dX4_movesInGroup_44 q1 rfl ?_
        refine r_icmp_ge (tgt := 66) dX4_movesInGroup_47 (by decide) (fun c => ?_) (fun c => ?_)
        · have V := V.1 c
          refine r_iincN 5 (b := 1) (L' := [(4, .int (nI (x4 + 1))), (5, .int ((nI x4) + x2)), (0, .ref x0), (1, .int (nI x1)), (2, .int x2), (3, .int (nI x3))]) dX4_movesInGroup_66 rfl rfl (by decide) rfl ?_
          refine r_goto (tgt := 5) dX4_movesInGroup_69 (by decide) ?_
          exact Blk.sub [2, 3, 4, 5, 0] rfl V
        · have V := V.2 c
          refine r_iload_n 4 dX4_movesInGroup_50 rfl rfl ?_
          refine r_aload_n 1 dX4_movesInGroup_51 rfl rfl ?_
          refine r_getf (ci := 5) (kf := 1) (T := TX4) rfl in_X4 (by decide) wF_X4_15 dX4_movesInGroup_52 q1 rfl ?_
          refine r_iload 5 dX4_movesInGroup_55 rfl ?_
          refine r_bipush (v := (nI 6)) dX4_movesInGroup_57 rfl ?_
          refine r_imulN dX4_movesInGroup_59 ?_
          refine r_iload 0 dX4_movesInGroup_60 rfl ?_
          refine r_iadd dX4_movesInGroup_62 ?_
          obtain ⟨N14, f15, q13, V⟩ := V
          obtain ⟨j16, e17, V⟩ := V
          obtain ⟨c, cN, V⟩ := V
          refine r_iald dX4_movesInGroup_63 q13 e17 c cN ?_
          show Blk g M_X4_movesInGroup post 64 [(5, .int ((nI x4) + x2)), (0, .ref x0), (1, .int (nI x1)), (2, .int x2), (3, .int (nI x3)), (4, .int (nI x4))] [.int (nI (f15 j16)), .int (nI x3)] h nx 0 0
          refine r_iaddN dX4_movesInGroup_64 ?_
          refine r_istore_n (L' := [(3, .int (nI (x3 + (f15 j16)))), (5, .int ((nI x4) + x2)), (0, .ref x0), (1, .int (nI x1)), (2, .int x2), (4, .int (nI x4))]) dX4_movesInGroup_65 rfl (by decide) rfl ?_
          refine r_iincN 5 (b := 1) (L' := [(4, .int (nI (x4 + 1))), (3, .int (nI (x3 + (f15 j16)))), (5, .int ((nI x4) + x2)), (0, .ref x0), (1, .int (nI x1)), (2, .int x2)]) dX4_movesInGroup_66 rfl rfl (by decide) rfl ?_
          refine r_goto (tgt := 5) dX4_movesInGroup_69 (by decide) ?_
          exact Blk.sub [3, 4, 5, 1, 0] rfl V
set_option maxRecDepth 20000 in
theorem v_X4_goal_0 {g : xG} {post : xPost} {h : xHp} {nx : Nat} {x0 : Nat} {x1 : Nat} {x2 : Int64} (V : Blk g M_X4_goal post 6 [(0, .ref x0), (1, .int (nI x1)), (2, .long x2), (4, .long (lN 0)), (6, .int (nI 0))] [] h nx 0 0) : Blk g M_X4_goal post 0 [(0, .ref x0), (1, .int (nI x1)), (2, .long x2)] [] h nx 0 0 := by
  refine r_lconst (v := (lN 0)) dX4_goal_0 rfl ?_
  refine r_lstore (L' := [(4, .long (lN 0)), (0, .ref x0), (1, .int (nI x1)), (2, .long x2)]) dX4_goal_1 (by decide) rfl ?_
  refine r_iconst (v := (nI 0)) dX4_goal_3 rfl ?_
  refine r_istore (L' := [(6, .int (nI 0)), (4, .long (lN 0)), (0, .ref x0), (1, .int (nI x1)), (2, .long x2)]) dX4_goal_4 (by decide) rfl ?_
  exact Blk.sub [2, 3, 4, 1, 0] rfl V
set_option maxRecDepth 20000 in
theorem v_X4_goal_6 {g : xG} {post : xPost} {h : xHp} {nx : Nat} {x0 : Nat} {x1 : Nat} {x2 : Int64} {x4 : Nat} {x6 : Nat} (V : (∃ (o2 : Nat) (o3 : Nat) (o4 : Nat) (o5 : Nat) (o6 : Nat) (o7 : Nat) (o8 : Nat) (o9 : Nat), h x0 = some (xo 5 [.int (nI o2), .ref o3, .ref o4, .ref o5, .ref o6, .ref o7, .int (nI o8), .int (nI o9)]) ∧ ((x6 < 2 ^ 31 ∧ o2 < 2 ^ 31) ∧ ((o2 ≤ x6 → (1 ≤ o2 ∧ (post (some (.int (nI (o2 - 1)))) h nx))) ∧ (x6 < o2 → (Ct g M_X4_top [.ref x0, .int (nI x1), .int (nI x6)] h nx (fun r h10 n11 => ∃ v12 : Nat, r = some (.int (nI v12)) ∧ (v12 < 2 ^ 31 ∧ (∃ (o16 : Nat) (o17 : Nat) (o18 : Nat) (o19 : Nat) (o20 : Nat) (o21 : Nat) (o22 : Nat) (o23 : Nat), h10 x0 = some (xo 5 [.int (nI o16), .ref o17, .ref o18, .ref o19, .ref o20, .ref o21, .int (nI o22), .int (nI o23)]) ∧ Ct g M_X4_bottom [.ref x0, .int (nI x1)] h10 n11 (fun r h13 n14 => ∃ v24 : Nat, r = some (.int (nI v24)) ∧ (v24 < 2 ^ 31 ∧ ((((lN (x4 + v12)) <<< ((nI 31).toInt64 &&& 63)) ≤ (x2 * (lN v24)) → Blk g M_X4_goal post 6 [(0, .ref x0), (1, .int (nI x1)), (2, .long x2), (4, .long (lN (x4 + v12))), (6, .int (nI (x6 + 1)))] [] h13 n14 0 0) ∧ (¬ ((lN (x4 + v12)) <<< ((nI 31).toInt64 &&& 63)) ≤ (x2 * (lN v24)) → (post (some (.int (nI x6))) h13 n14)))))))))))))) : Blk g M_X4_goal post 6 [(0, .ref x0), (1, .int (nI x1)), (2, .long x2), (4, .long (lN x4)), (6, .int (nI x6))] [] h nx 0 0 := by
  refine r_iload 4 dX4_goal_6 rfl ?_
  refine r_aload_n 0 dX4_goal_8 rfl rfl ?_
  obtain ⟨o2, o3, o4, o5, o6, o7, o8, o9, q1, V⟩ := V
  refine r_getf (ci := 5) (kf := 0) (T := TX4) rfl in_X4 (by decide) wF_X4_9 dX4_goal_9 q1 rfl ?_
  obtain ⟨c, V⟩ := V
  refine r_icmp_geN (tgt := 54) dX4_goal_12 (by decide) c (fun c => ?_) (fun c => ?_)
  · have V := V.1 c
    refine r_aload_n 0 dX4_goal_54 rfl rfl ?_
    refine r_getf (ci := 5) (kf := 0) (T := TX4) rfl in_X4 (by decide) wF_X4_9 dX4_goal_55 q1 rfl ?_
    refine r_iconst (v := (nI 1)) dX4_goal_58 rfl ?_
    obtain ⟨c, V⟩ := V
    refine r_isubN dX4_goal_59 c ?_
    exact r_iret dX4_goal_60 rfl (by decide) (by decide) V
  · have V := V.2 c
    refine r_lload 3 dX4_goal_15 rfl ?_
    refine r_aload_n 0 dX4_goal_17 rfl rfl ?_
    refine r_iload_n 1 dX4_goal_18 rfl rfl ?_
    refine r_iload 4 dX4_goal_19 rfl ?_
    refine r_callV (M2 := M_X4_top) (ci := 5) (n := 2) (As := [.int (nI x1), .int (nI x6)]) rfl (wl5 wM_X4_70 wi_X4_top wS_X4_top wI_StateShares_Moves wc_X4_top) (by decide +kernel) (by decide) rfl rfl (Nat.le_of_ble_eq_true rfl) dX4_goal_21 q1 (by decide) (by decide) (Ct.imp V (fun r h10 n11 V => ?_))
    obtain ⟨v12, rfl, V⟩ := V
    show Blk g M_X4_goal post 24 [(0, .ref x0), (1, .int (nI x1)), (2, .long x2), (4, .long (lN x4)), (6, .int (nI x6))] [.int (nI v12), .long (lN x4)] h10 n11 0 0
    obtain ⟨c, V⟩ := V
    refine r_i2lN dX4_goal_24 c ?_
    refine r_laddN dX4_goal_25 ?_
    refine r_lstore (L' := [(4, .long (lN (x4 + v12))), (0, .ref x0), (1, .int (nI x1)), (2, .long x2), (6, .int (nI x6))]) dX4_goal_26 (by decide) rfl ?_
    refine r_lload 0 dX4_goal_28 rfl ?_
    refine r_bipush (v := (nI 31)) dX4_goal_30 rfl ?_
    refine r_lshl dX4_goal_32 ?_
    refine r_lload_n 3 dX4_goal_33 rfl rfl ?_
    refine r_aload_n 1 dX4_goal_34 rfl rfl ?_
    refine r_iload_n 2 dX4_goal_35 rfl rfl ?_
    obtain ⟨o16, o17, o18, o19, o20, o21, o22, o23, q15, V⟩ := V
    refine r_callV (M2 := M_X4_bottom) (ci := 5) (n := 1) (As := [.int (nI x1)]) rfl (wl5 wM_X4_73 wi_X4_bottom wS_X4_bottom wI_StateShares_Moves wc_X4_bottom) (by decide +kernel) (by decide) rfl rfl (Nat.le_of_ble_eq_true rfl) dX4_goal_36 q15 (by decide) (by decide) (Ct.imp V (fun r h13 n14 V => ?_))
    obtain ⟨v24, rfl, V⟩ := V
    show Blk g M_X4_goal post 39 [(4, .long (lN (x4 + v12))), (0, .ref x0), (1, .int (nI x1)), (2, .long x2), (6, .int (nI x6))] [.int (nI v24), .long x2, .long ((lN (x4 + v12)) <<< ((nI 31).toInt64 &&& 63))] h13 n14 0 0
    obtain ⟨c, V⟩ := V
    refine r_i2lN dX4_goal_39 c ?_
    refine r_lmul dX4_goal_40 ?_
    refine r_lcmp dX4_goal_41 ?_
    refine r_if_le (tgt := 48) dX4_goal_42 (by decide) (fun c => ?_) (fun c => ?_)
    · have V := V.1 ((lg_cmp_le _ _).mp c)
      refine r_iincN 4 (b := 1) (L' := [(6, .int (nI (x6 + 1))), (4, .long (lN (x4 + v12))), (0, .ref x0), (1, .int (nI x1)), (2, .long x2)]) dX4_goal_48 rfl rfl (by decide) rfl ?_
      refine r_goto (tgt := 6) dX4_goal_51 (by decide) ?_
      exact Blk.sub [2, 3, 4, 1, 0] rfl V
    · have V := V.2 (fun q => c ((lg_cmp_le _ _).mpr q))
      refine r_iload 4 dX4_goal_45 rfl ?_
      exact r_iret dX4_goal_47 rfl (by decide) (by decide) V
set_option maxRecDepth 20000 in
theorem v_X3_init_0 {g : xG} {post : xPost} {h : xHp} {nx : Nat} {x0 : Nat} (V : (h x0 = some (xo 4 [.null, .null, .null, .null]) ∧ x0 ≠ nx ∧ (x0 ≠ (nx + 1) ∧ (x0 ≠ ((nx + 1) + 1) ∧ (x0 ≠ (((nx + 1) + 1) + 1) ∧ Blk g M_X3_init post 38 [(0, .ref x0), (1, .int (nI 0))] [] (xup (xup (xup (xup (xup (xup (xup (xup h nx (xia 480 (fun _ => nI 0))) x0 (xo 4 [.ref nx, .null, .null, .null])) (nx + 1) (xia 120 (fun _ => nI 0))) x0 (xo 4 [.ref nx, .ref (nx + 1), .null, .null])) ((nx + 1) + 1) (xna 10 (fun _ => 0))) x0 (xo 4 [.ref nx, .ref (nx + 1), .ref ((nx + 1) + 1), .null])) (((nx + 1) + 1) + 1) (xna 4 (fun _ => 0))) x0 (xo 4 [.ref nx, .ref (nx + 1), .ref ((nx + 1) + 1), .ref (((nx + 1) + 1) + 1)])) ((((nx + 1) + 1) + 1) + 1) 4 614))))) : Blk g M_X3_init post 0 [(0, .ref x0)] [] h nx 0 0 := by
  refine r_aload_n 0 dX3_init_0 rfl rfl ?_
  refine r_oinit wM_X3_3 wi_java_lang_Object__init____V wc_java_lang_Object__init____V dX3_init_1 (by decide) (Nat.le_of_ble_eq_true rfl) ?_
  refine r_aload_n 0 dX3_init_4 rfl rfl ?_
  refine r_sipush (v := (nI 480)) dX3_init_5 rfl ?_
  refine r_newi wA_int dX3_init_8 rfl (by decide) (by decide) (by decide) ?_
  show Blk g M_X3_init post 10 [(0, .ref x0)] [.ref nx, .ref x0] (xup h nx (xia 480 (fun _ => nI 0))) (nx + 1) 1 480
  obtain ⟨q1, V⟩ := V
  obtain ⟨n2, V⟩ := V
  have q3 : (xup h nx (xia 480 (fun _ => nI 0))) x0 = some (xo 4 [.null, .null, .null, .null]) := (xup_n n2).trans q1
  refine r_putF (ci := 4) (kf := 0) (T := TX3) rfl in_X3 tyX3_ok nmX3 (by decide) wF_X3_11 rfl rfl rfl (tyX3_ok 0 (by decide)) dX3_init_10 q3 (Nat.le_of_ble_eq_true rfl) rfl rfl ?_
  show Blk g M_X3_init post 13 [(0, .ref x0)] [] (xup (xup h nx (xia 480 (fun _ => nI 0))) x0 (xo 4 [.ref nx, .null, .null, .null])) (nx + 1) 1 480
  refine r_aload_n 0 dX3_init_13 rfl rfl ?_
  refine r_bipush (v := (nI 120)) dX3_init_14 rfl ?_
  refine r_newi wA_int dX3_init_16 rfl (by decide) (by decide) (by decide) ?_
  show Blk g M_X3_init post 18 [(0, .ref x0)] [.ref (nx + 1), .ref x0] (xup (xup (xup h nx (xia 480 (fun _ => nI 0))) x0 (xo 4 [.ref nx, .null, .null, .null])) (nx + 1) (xia 120 (fun _ => nI 0))) ((nx + 1) + 1) 2 600
  obtain ⟨n4, V⟩ := V
  have q5 : (xup (xup (xup h nx (xia 480 (fun _ => nI 0))) x0 (xo 4 [.ref nx, .null, .null, .null])) (nx + 1) (xia 120 (fun _ => nI 0))) x0 = some (xo 4 [.ref nx, .null, .null, .null]) := (xup_n n4).trans (xup_s _ _ _)
  refine r_putF (ci := 4) (kf := 1) (T := TX3) rfl in_X3 tyX3_ok nmX3 (by decide) wF_X3_15 rfl rfl rfl (tyX3_ok 1 (by decide)) dX3_init_18 q5 (Nat.le_of_ble_eq_true rfl) rfl rfl ?_
  show Blk g M_X3_init post 21 [(0, .ref x0)] [] (xup (xup (xup (xup h nx (xia 480 (fun _ => nI 0))) x0 (xo 4 [.ref nx, .null, .null, .null])) (nx + 1) (xia 120 (fun _ => nI 0))) x0 (xo 4 [.ref nx, .ref (nx + 1), .null, .null])) ((nx + 1) + 1) 2 600
  refine r_aload_n 0 dX3_init_21 rfl rfl ?_
  refine r_bipush (v := (nI 10)) dX3_init_22 rfl ?_
  refine r_newi wA_int dX3_init_24 rfl (by decide) (by decide) (by decide) ?_
  show Blk g M_X3_init post 26 [(0, .ref x0)] [.ref ((nx + 1) + 1), .ref x0] (xup (xup (xup (xup (xup h nx (xia 480 (fun _ => nI 0))) x0 (xo 4 [.ref nx, .null, .null, .null])) (nx + 1) (xia 120 (fun _ => nI 0))) x0 (xo 4 [.ref nx, .ref (nx + 1), .null, .null])) ((nx + 1) + 1) (xna 10 (fun _ => 0))) (((nx + 1) + 1) + 1) 3 610
  obtain ⟨n6, V⟩ := V
  have q7 : (xup (xup (xup (xup (xup h nx (xia 480 (fun _ => nI 0))) x0 (xo 4 [.ref nx, .null, .null, .null])) (nx + 1) (xia 120 (fun _ => nI 0))) x0 (xo 4 [.ref nx, .ref (nx + 1), .null, .null])) ((nx + 1) + 1) (xna 10 (fun _ => 0))) x0 = some (xo 4 [.ref nx, .ref (nx + 1), .null, .null]) := (xup_n n6).trans (xup_s _ _ _)
  refine r_putF (ci := 4) (kf := 2) (T := TX3) rfl in_X3 tyX3_ok nmX3 (by decide) wF_X3_18 rfl rfl rfl (tyX3_ok 2 (by decide)) dX3_init_26 q7 (Nat.le_of_ble_eq_true rfl) rfl rfl ?_
  show Blk g M_X3_init post 29 [(0, .ref x0)] [] (xup (xup (xup (xup (xup (xup h nx (xia 480 (fun _ => nI 0))) x0 (xo 4 [.ref nx, .null, .null, .null])) (nx + 1) (xia 120 (fun _ => nI 0))) x0 (xo 4 [.ref nx, .ref (nx + 1), .null, .null])) ((nx + 1) + 1) (xna 10 (fun _ => 0))) x0 (xo 4 [.ref nx, .ref (nx + 1), .ref ((nx + 1) + 1), .null])) (((nx + 1) + 1) + 1) 3 610
  refine r_aload_n 0 dX3_init_29 rfl rfl ?_
  refine r_iconst (v := (nI 4)) dX3_init_30 rfl ?_
  refine r_newi wA_int dX3_init_31 rfl (by decide) (by decide) (by decide) ?_
  show Blk g M_X3_init post 33 [(0, .ref x0)] [.ref (((nx + 1) + 1) + 1), .ref x0] (xup (xup (xup (xup (xup (xup (xup h nx (xia 480 (fun _ => nI 0))) x0 (xo 4 [.ref nx, .null, .null, .null])) (nx + 1) (xia 120 (fun _ => nI 0))) x0 (xo 4 [.ref nx, .ref (nx + 1), .null, .null])) ((nx + 1) + 1) (xna 10 (fun _ => 0))) x0 (xo 4 [.ref nx, .ref (nx + 1), .ref ((nx + 1) + 1), .null])) (((nx + 1) + 1) + 1) (xna 4 (fun _ => 0))) ((((nx + 1) + 1) + 1) + 1) 4 614
  obtain ⟨n8, V⟩ := V
  have q9 : (xup (xup (xup (xup (xup (xup (xup h nx (xia 480 (fun _ => nI 0))) x0 (xo 4 [.ref nx, .null, .null, .null])) (nx + 1) (xia 120 (fun _ => nI 0))) x0 (xo 4 [.ref nx, .ref (nx + 1), .null, .null])) ((nx + 1) + 1) (xna 10 (fun _ => 0))) x0 (xo 4 [.ref nx, .ref (nx + 1), .ref ((nx + 1) + 1), .null])) (((nx + 1) + 1) + 1) (xna 4 (fun _ => 0))) x0 = some (xo 4 [.ref nx, .ref (nx + 1), .ref ((nx + 1) + 1), .null]) := (xup_n n8).trans (xup_s _ _ _)
  refine r_putF (ci := 4) (kf := 3) (T := TX3) rfl in_X3 tyX3_ok nmX3 (by decide) wF_X3_21 rfl rfl rfl (tyX3_ok 3 (by decide)) dX3_init_33 q9 (Nat.le_of_ble_eq_true rfl) rfl rfl ?_
  show Blk g M_X3_init post 36 [(0, .ref x0)] [] (xup (xup (xup (xup (xup (xup (xup (xup h nx (xia 480 (fun _ => nI 0))) x0 (xo 4 [.ref nx, .null, .null, .null])) (nx + 1) (xia 120 (fun _ => nI 0))) x0 (xo 4 [.ref nx, .ref (nx + 1), .null, .null])) ((nx + 1) + 1) (xna 10 (fun _ => 0))) x0 (xo 4 [.ref nx, .ref (nx + 1), .ref ((nx + 1) + 1), .null])) (((nx + 1) + 1) + 1) (xna 4 (fun _ => 0))) x0 (xo 4 [.ref nx, .ref (nx + 1), .ref ((nx + 1) + 1), .ref (((nx + 1) + 1) + 1)])) ((((nx + 1) + 1) + 1) + 1) 4 614
  refine r_iconst (v := (nI 0)) dX3_init_36 rfl ?_
  refine r_istore_n (L' := [(1, .int (nI 0)), (0, .ref x0)]) dX3_init_37 rfl (by decide) rfl ?_
  exact Blk.sub [1, 0] rfl V
set_option maxRecDepth 20000 in
theorem v_X3_init_38 {g : xG} {post : xPost} {h : xHp} {nx : Nat} {cu su : Nat} {x0 : Nat} {x1 : Nat} (V : (∃ (o2 : Nat) (o3 : Nat) (o4 : Nat) (o5 : Nat), h x0 = some (xo 4 [.ref o2, .ref o3, .ref o4, .ref o5]) ∧ (∃ (N7 : Nat) (f8 : Nat → Int32), h o2 = some (xia N7 f8) ∧ ((x1 < 2 ^ 31 ∧ N7 < 2 ^ 31) ∧ ((N7 ≤ x1 → Blk g M_X3_init post 62 [(0, .ref x0), (1, .int (nI 0))] [] h nx cu su) ∧ (x1 < N7 → (x1 < N7 ∧ N7 < 2 ^ 31 ∧ Blk g M_X3_init post 38 [(0, .ref x0), (1, .int (nI (x1 + 1)))] [] (xup h o2 (xia N7 (va_up f8 x1 (-1)))) nx cu su))))))) : Blk g M_X3_init post 38 [(0, .ref x0), (1, .int (nI x1))] [] h nx cu su := by
  refine r_iload_n 1 dX3_init_38 rfl rfl ?_
  refine r_aload_n 0 dX3_init_39 rfl rfl ?_
  obtain ⟨o2, o3, o4, o5, q1, V⟩ := V
  refine r_getf (ci := 4) (kf := 0) (T := TX3) rfl in_X3 (by decide) wF_X3_11 dX3_init_40 q1 rfl ?_
  obtain ⟨N7, f8, q6, V⟩ := V
  refine r_alen (kd := 0) (by decide) dX3_init_43 q6 ?_
  obtain ⟨c, V⟩ := V
  refine r_icmp_geN (tgt := 60) dX3_init_44 (by decide) c (fun c => ?_) (fun c => ?_)
  · have V := V.1 c
    refine r_iconst (v := (nI 0)) dX3_init_60 rfl ?_
    refine r_istore_n (L' := [(1, .int (nI 0)), (0, .ref x0)]) dX3_init_61 rfl (by decide) rfl ?_
    exact Blk.sub [1, 0] rfl V
  · have V := V.2 c
    refine r_aload_n 0 dX3_init_47 rfl rfl ?_
    refine r_getf (ci := 4) (kf := 0) (T := TX3) rfl in_X3 (by decide) wF_X3_11 dX3_init_48 q1 rfl ?_
    refine r_iload_n 1 dX3_init_51 rfl rfl ?_
    refine r_iconst (v := (-1)) dX3_init_52 rfl ?_
    obtain ⟨c, cN, V⟩ := V
    refine r_iast dX3_init_53 q6 rfl c cN ?_
    show Blk g M_X3_init post 54 [(0, .ref x0), (1, .int (nI x1))] [] (xup h o2 (xia N7 (va_up f8 x1 (-1)))) nx cu su
    refine r_iincN 1 (b := 1) (L' := [(1, .int (nI (x1 + 1))), (0, .ref x0)]) dX3_init_54 rfl rfl (by decide) rfl ?_
    refine r_goto (tgt := 38) dX3_init_57 (by decide) ?_
    exact Blk.sub [1, 0] rfl V
set_option maxRecDepth 20000 in
theorem v_X3_init_62 {g : xG} {post : xPost} {h : xHp} {nx : Nat} {cu su : Nat} {x0 : Nat} {x1 : Nat} (V : (∃ (o2 : Nat) (o3 : Nat) (o4 : Nat) (o5 : Nat), h x0 = some (xo 4 [.ref o2, .ref o3, .ref o4, .ref o5]) ∧ (∃ (N7 : Nat) (f8 : Nat → Int32), h o3 = some (xia N7 f8) ∧ ((x1 < 2 ^ 31 ∧ N7 < 2 ^ 31) ∧ ((N7 ≤ x1 → (cu ≤ 4 ∧ su ≤ 614 ∧ post none h nx)) ∧ (x1 < N7 → (x1 < N7 ∧ N7 < 2 ^ 31 ∧ Blk g M_X3_init post 62 [(0, .ref x0), (1, .int (nI (x1 + 1)))] [] (xup h o3 (xia N7 (va_up f8 x1 (-1)))) nx cu su))))))) : Blk g M_X3_init post 62 [(0, .ref x0), (1, .int (nI x1))] [] h nx cu su := by
  refine r_iload_n 1 dX3_init_62 rfl rfl ?_
  refine r_aload_n 0 dX3_init_63 rfl rfl ?_
  obtain ⟨o2, o3, o4, o5, q1, V⟩ := V
  refine r_getf (ci := 4) (kf := 1) (T := TX3) rfl in_X3 (by decide) wF_X3_15 dX3_init_64 q1 rfl ?_
  obtain ⟨N7, f8, q6, V⟩ := V
  refine r_alen (kd := 0) (by decide) dX3_init_67 q6 ?_
  obtain ⟨c, V⟩ := V
  refine r_icmp_geN (tgt := 84) dX3_init_68 (by decide) c (fun c => ?_) (fun c => ?_)
  · have V := V.1 c
    obtain ⟨c1, c2, V⟩ := V
    exact r_vret dX3_init_84 rfl c1 c2 V
  · have V := V.2 c
    refine r_aload_n 0 dX3_init_71 rfl rfl ?_
    refine r_getf (ci := 4) (kf := 1) (T := TX3) rfl in_X3 (by decide) wF_X3_15 dX3_init_72 q1 rfl ?_
    refine r_iload_n 1 dX3_init_75 rfl rfl ?_
    refine r_iconst (v := (-1)) dX3_init_76 rfl ?_
    obtain ⟨c, cN, V⟩ := V
    refine r_iast dX3_init_77 q6 rfl c cN ?_
    show Blk g M_X3_init post 78 [(0, .ref x0), (1, .int (nI x1))] [] (xup h o3 (xia N7 (va_up f8 x1 (-1)))) nx cu su
    refine r_iincN 1 (b := 1) (L' := [(1, .int (nI (x1 + 1))), (0, .ref x0)]) dX3_init_78 rfl rfl (by decide) rfl ?_
    refine r_goto (tgt := 62) dX3_init_81 (by decide) ?_
    exact Blk.sub [1, 0] rfl V
set_option maxRecDepth 20000 in
theorem v_X3_place_0 {g : xG} {post : xPost} {h : xHp} {nx : Nat} {x0 : Nat} {x1 : Nat} (V : (post (some (.int (nI ((x0 * 12) + x1)))) h nx)) : Blk g M_X3_place post 0 [(0, .int (nI x0)), (1, .int (nI x1))] [] h nx 0 0 := by
  refine r_iload_n 0 dX3_place_0 rfl rfl ?_
  refine r_bipush (v := (nI 12)) dX3_place_1 rfl ?_
  refine r_imulN dX3_place_3 ?_
  refine r_iload_n 1 dX3_place_4 rfl rfl ?_
  refine r_iaddN dX3_place_5 ?_
  exact r_iret dX3_place_6 rfl (by decide) (by decide) V
set_option maxRecDepth 20000 in
theorem v_X3_see_0 {g : xG} {post : xPost} {h : xHp} {nx : Nat} {x0 : Nat} {x1 : Nat} {x2 : Nat} {x3 : Nat} {x4 : Nat} (V : (∃ (o2 : Nat) (o3 : Nat) (o4 : Nat) (o5 : Nat), h x0 = some (xo 4 [.ref o2, .ref o3, .ref o4, .ref o5]) ∧ (Ct g M_X3_place [.int (nI x1), .int (nI x2)] h nx (fun r h6 n7 => ∃ v8 : Nat, r = some (.int (nI v8)) ∧ (∃ (N10 : Nat) (f11 : Nat → Int32), h6 o2 = some (xia N10 f11) ∧ ((v8 * 4) + x3) < N10 ∧ N10 < 2 ^ 31 ∧ (post none (xup h6 o2 (xia N10 (va_up f11 ((v8 * 4) + x3) (nI x4)))) n7)))))) : Blk g M_X3_see post 0 [(0, .ref x0), (1, .int (nI x1)), (2, .int (nI x2)), (3, .int (nI x3)), (4, .int (nI x4))] [] h nx 0 0 := by
  refine r_aload_n 0 dX3_see_0 rfl rfl ?_
  obtain ⟨o2, o3, o4, o5, q1, V⟩ := V
  refine r_getf (ci := 4) (kf := 0) (T := TX3) rfl in_X3 (by decide) wF_X3_11 dX3_see_1 q1 rfl ?_
  refine r_iload_n 1 dX3_see_4 rfl rfl ?_
  refine r_iload_n 2 dX3_see_5 rfl rfl ?_
  refine r_callS (M2 := M_X3_place) (n := 2) (As := [.int (nI x1), .int (nI x2)]) (wl4 wM_X3_24 ws_X3_place wI_StateShares_Marks wc_X3_place) (by decide +kernel) (by decide) rfl rfl (Nat.le_of_ble_eq_true rfl) dX3_see_6 (by decide) (by decide) (Ct.imp V (fun r h6 n7 V => ?_))
  obtain ⟨v8, rfl, V⟩ := V
  show Blk g M_X3_see post 9 [(0, .ref x0), (1, .int (nI x1)), (2, .int (nI x2)), (3, .int (nI x3)), (4, .int (nI x4))] [.int (nI v8), .ref o2] h6 n7 0 0
  refine r_iconst (v := (nI 4)) dX3_see_9 rfl ?_
  refine r_imulN dX3_see_10 ?_
  refine r_iload_n 3 dX3_see_11 rfl rfl ?_
  refine r_iaddN dX3_see_12 ?_
  refine r_iload 4 dX3_see_13 rfl ?_
  obtain ⟨N10, f11, q9, V⟩ := V
  obtain ⟨c, cN, V⟩ := V
  refine r_iast dX3_see_15 q9 rfl c cN ?_
  show Blk g M_X3_see post 16 [(0, .ref x0), (1, .int (nI x1)), (2, .int (nI x2)), (3, .int (nI x3)), (4, .int (nI x4))] [] (xup h6 o2 (xia N10 (va_up f11 ((v8 * 4) + x3) (nI x4)))) n7 0 0
  exact r_vret dX3_see_16 rfl (by decide) (by decide) V
set_option maxRecDepth 20000 in
theorem v_X3_setKind_0 {g : xG} {post : xPost} {h : xHp} {nx : Nat} {x0 : Nat} {x1 : Nat} {x2 : Nat} (V : (∃ (o2 : Nat) (o3 : Nat) (o4 : Nat) (o5 : Nat), h x0 = some (xo 4 [.ref o2, .ref o3, .ref o4, .ref o5]) ∧ (∃ (N7 : Nat) (f8 : Nat → Nat), h o4 = some (xna N7 f8) ∧ x1 < N7 ∧ N7 < 2 ^ 31 ∧ (post none (xup h o4 (xna N7 (va_up f8 x1 x2))) nx)))) : Blk g M_X3_setKind post 0 [(0, .ref x0), (1, .int (nI x1)), (2, .int (nI x2))] [] h nx 0 0 := by
  refine r_aload_n 0 dX3_setKind_0 rfl rfl ?_
  obtain ⟨o2, o3, o4, o5, q1, V⟩ := V
  refine r_getf (ci := 4) (kf := 2) (T := TX3) rfl in_X3 (by decide) wF_X3_18 dX3_setKind_1 q1 rfl ?_
  refine r_iload_n 1 dX3_setKind_4 rfl rfl ?_
  refine r_iload_n 2 dX3_setKind_5 rfl rfl ?_
  obtain ⟨N7, f8, q6, V⟩ := V
  obtain ⟨c, cN, V⟩ := V
  refine r_iastN dX3_setKind_6 q6 c cN ?_
  show Blk g M_X3_setKind post 7 [(0, .ref x0), (1, .int (nI x1)), (2, .int (nI x2))] [] (xup h o4 (xna N7 (va_up f8 x1 x2))) nx 0 0
  exact r_vret dX3_setKind_7 rfl (by decide) (by decide) V
set_option maxRecDepth 20000 in
theorem v_X3_stateOf_0 {g : xG} {post : xPost} {h : xHp} {nx : Nat} {x0 : Nat} {x1 : Nat} {x2 : Nat} (V : (∃ (o2 : Nat) (o3 : Nat) (o4 : Nat) (o5 : Nat), h x0 = some (xo 4 [.ref o2, .ref o3, .ref o4, .ref o5]) ∧ (Ct g M_X3_place [.int (nI x1), .int (nI x2)] h nx (fun r h6 n7 => ∃ v8 : Nat, r = some (.int (nI v8)) ∧ (∃ (N10 : Nat) (f11 : Nat → Int32), h6 o3 = some (xia N10 f11) ∧ v8 < N10 ∧ N10 < 2 ^ 31 ∧ (post (some (.int (f11 v8))) h6 n7)))))) : Blk g M_X3_stateOf post 0 [(0, .ref x0), (1, .int (nI x1)), (2, .int (nI x2))] [] h nx 0 0 := by
  refine r_aload_n 0 dX3_stateOf_0 rfl rfl ?_
  obtain ⟨o2, o3, o4, o5, q1, V⟩ := V
  refine r_getf (ci := 4) (kf := 1) (T := TX3) rfl in_X3 (by decide) wF_X3_15 dX3_stateOf_1 q1 rfl ?_
  refine r_iload_n 1 dX3_stateOf_4 rfl rfl ?_
  refine r_iload_n 2 dX3_stateOf_5 rfl rfl ?_
  refine r_callS (M2 := M_X3_place) (n := 2) (As := [.int (nI x1), .int (nI x2)]) (wl4 wM_X3_24 ws_X3_place wI_StateShares_Marks wc_X3_place) (by decide +kernel) (by decide) rfl rfl (Nat.le_of_ble_eq_true rfl) dX3_stateOf_6 (by decide) (by decide) (Ct.imp V (fun r h6 n7 V => ?_))
  obtain ⟨v8, rfl, V⟩ := V
  show Blk g M_X3_stateOf post 9 [(0, .ref x0), (1, .int (nI x1)), (2, .int (nI x2))] [.int (nI v8), .ref o3] h6 n7 0 0
  obtain ⟨N10, f11, q9, V⟩ := V
  obtain ⟨c, cN, V⟩ := V
  refine r_iald dX3_stateOf_9 q9 rfl c cN ?_
  show Blk g M_X3_stateOf post 10 [(0, .ref x0), (1, .int (nI x1)), (2, .int (nI x2))] [.int (f11 v8)] h6 n7 0 0
  exact r_iret dX3_stateOf_10 rfl (by decide) (by decide) V
set_option maxRecDepth 20000 in
theorem v_X3_judgeOne_0 {g : xG} {post : xPost} {h : xHp} {nx : Nat} {x0 : Nat} {x1 : Nat} {x2 : Nat} {x3 : Nat} (V : (Ct g M_X3_place [.int (nI x1), .int (nI x2)] h nx (fun r h1 n2 => ∃ v3 : Nat, r = some (.int (nI v3)) ∧ (∃ (o7 : Nat) (o8 : Nat) (o9 : Nat) (o10 : Nat), h1 x0 = some (xo 4 [.ref o7, .ref o8, .ref o9, .ref o10]) ∧ Ct g M_X3_judgePlace [.ref x0, .int (nI v3), .ref x3] h1 n2 (fun r h4 n5 => r = none ∧ (post none h4 n5)))))) : Blk g M_X3_judgeOne post 0 [(0, .ref x0), (1, .int (nI x1)), (2, .int (nI x2)), (3, .ref x3)] [] h nx 0 0 := by
  refine r_aload_n 0 dX3_judgeOne_0 rfl rfl ?_
  refine r_iload_n 1 dX3_judgeOne_1 rfl rfl ?_
  refine r_iload_n 2 dX3_judgeOne_2 rfl rfl ?_
  refine r_callS (M2 := M_X3_place) (n := 2) (As := [.int (nI x1), .int (nI x2)]) (wl4 wM_X3_24 ws_X3_place wI_StateShares_Marks wc_X3_place) (by decide +kernel) (by decide) rfl rfl (Nat.le_of_ble_eq_true rfl) dX3_judgeOne_3 (by decide) (by decide) (Ct.imp V (fun r h1 n2 V => ?_))
  obtain ⟨v3, rfl, V⟩ := V
  show Blk g M_X3_judgeOne post 6 [(0, .ref x0), (1, .int (nI x1)), (2, .int (nI x2)), (3, .ref x3)] [.int (nI v3), .ref x0] h1 n2 0 0
  refine r_aload_n 3 dX3_judgeOne_6 rfl rfl ?_
  obtain ⟨o7, o8, o9, o10, q6, V⟩ := V
  refine r_callV (M2 := M_X3_judgePlace) (ci := 4) (n := 2) (As := [.int (nI v3), .ref x3]) rfl (wl5 wM_X3_28 wi_X3_judgePlace wS_X3_judgePlace wI_StateShares_Marks wc_X3_judgePlace) (by decide +kernel) (by decide) rfl rfl (Nat.le_of_ble_eq_true rfl) dX3_judgeOne_7 q6 (by decide) (by decide) (Ct.imp V (fun r h4 n5 V => ?_))
  obtain ⟨rfl, V⟩ := V
  show Blk g M_X3_judgeOne post 10 [(0, .ref x0), (1, .int (nI x1)), (2, .int (nI x2)), (3, .ref x3)] [] h4 n5 0 0
  exact r_vret dX3_judgeOne_10 rfl (by decide) (by decide) V
set_option maxRecDepth 20000 in
theorem v_X3_judgeAll_0 {g : xG} {post : xPost} {h : xHp} {nx : Nat} {x0 : Nat} {x1 : Nat} (V : Blk g M_X3_judgeAll post 2 [(0, .ref x0), (1, .ref x1), (2, .int (nI 0))] [] h nx 0 0) : Blk g M_X3_judgeAll post 0 [(0, .ref x0), (1, .ref x1)] [] h nx 0 0 := by
  refine r_iconst (v := (nI 0)) dX3_judgeAll_0 rfl ?_
  refine r_istore_n (L' := [(2, .int (nI 0)), (0, .ref x0), (1, .ref x1)]) dX3_judgeAll_1 rfl (by decide) rfl ?_
  exact Blk.sub [1, 2, 0] rfl V
set_option maxRecDepth 20000 in
theorem v_X3_judgeAll_2 {g : xG} {post : xPost} {h : xHp} {nx : Nat} {x0 : Nat} {x1 : Nat} {x2 : Nat} (V : ((x2 < 2 ^ 31 ∧ 120 < 2 ^ 31) ∧ ((120 ≤ x2 → (post none h nx)) ∧ (x2 < 120 → (∃ (o4 : Nat) (o5 : Nat) (o6 : Nat) (o7 : Nat), h x0 = some (xo 4 [.ref o4, .ref o5, .ref o6, .ref o7]) ∧ Ct g M_X3_judgePlace [.ref x0, .int (nI x2), .ref x1] h nx (fun r h1 n2 => r = none ∧ Blk g M_X3_judgeAll post 2 [(0, .ref x0), (1, .ref x1), (2, .int (nI (x2 + 1)))] [] h1 n2 0 0)))))) : Blk g M_X3_judgeAll post 2 [(0, .ref x0), (1, .ref x1), (2, .int (nI x2))] [] h nx 0 0 := by
  refine r_iload_n 2 dX3_judgeAll_2 rfl rfl ?_
  refine r_bipush (v := (nI 120)) dX3_judgeAll_3 rfl ?_
  obtain ⟨c, V⟩ := V
  refine r_icmp_geN (tgt := 20) dX3_judgeAll_5 (by decide) c (fun c => ?_) (fun c => ?_)
  · have V := V.1 c
    exact r_vret dX3_judgeAll_20 rfl (by decide) (by decide) V
  · have V := V.2 c
    refine r_aload_n 0 dX3_judgeAll_8 rfl rfl ?_
    refine r_iload_n 2 dX3_judgeAll_9 rfl rfl ?_
    refine r_aload_n 1 dX3_judgeAll_10 rfl rfl ?_
    obtain ⟨o4, o5, o6, o7, q3, V⟩ := V
    refine r_callV (M2 := M_X3_judgePlace) (ci := 4) (n := 2) (As := [.int (nI x2), .ref x1]) rfl (wl5 wM_X3_28 wi_X3_judgePlace wS_X3_judgePlace wI_StateShares_Marks wc_X3_judgePlace) (by decide +kernel) (by decide) rfl rfl (Nat.le_of_ble_eq_true rfl) dX3_judgeAll_11 q3 (by decide) (by decide) (Ct.imp V (fun r h1 n2 V => ?_))
    obtain ⟨rfl, V⟩ := V
    show Blk g M_X3_judgeAll post 14 [(0, .ref x0), (1, .ref x1), (2, .int (nI x2))] [] h1 n2 0 0
    refine r_iincN 2 (b := 1) (L' := [(2, .int (nI (x2 + 1))), (0, .ref x0), (1, .ref x1)]) dX3_judgeAll_14 rfl rfl (by decide) rfl ?_
    refine r_goto (tgt := 2) dX3_judgeAll_17 (by decide) ?_
    exact Blk.sub [1, 2, 0] rfl V
set_option maxRecDepth 20000 in
theorem v_X3_judgePlace_0 {g : xG} {post : xPost} {h : xHp} {nx : Nat} {x0 : Nat} {x1 : Nat} {x2 : Nat} (V : (∃ (o4 : Nat) (o5 : Nat) (o6 : Nat) (o7 : Nat), h x0 = some (xo 4 [.ref o4, .ref o5, .ref o6, .ref o7]) ∧ Ct g M_X3_sortMarks [.ref x0, .int (nI x1)] h nx (fun r h1 n2 => ∃ v8 : Nat, r = some (.int (nI v8)) ∧ (∃ (o10 : Nat) (o11 : Nat) (o12 : Nat) (o13 : Nat), h1 x0 = some (xo 4 [.ref o10, .ref o11, .ref o12, .ref o13]) ∧ (v8 < 2 ^ 31 ∧ ((¬ v8 = 0 → (∃ (o17 : Nat) (o18 : Nat) (o19 : Nat) (o20 : Nat) (o21 : Nat) (o22 : Nat) (o23 : Nat) (o24 : Nat) (o25 : Nat), h1 x2 = some (xo 8 [.int (nI o17), .ref o18, .int (nI o19), .ref o20, .ref o21, .int (nI o22), .int (nI o23), .ref o24, .ref o25]) ∧ Ct g M_X7_judge [.ref x2, .ref o13, .int (nI v8)] h1 n2 (fun r h14 n15 => ∃ v26 : Int32, r = some (.int v26) ∧ (∃ (N28 : Nat) (f29 : Nat → Int32), h14 o11 = some (xia N28 f29) ∧ x1 < N28 ∧ N28 < 2 ^ 31 ∧ (post none (xup h14 o11 (xia N28 (va_up f29 x1 v26))) n15))))) ∧ (v8 = 0 → (∃ (N31 : Nat) (f32 : Nat → Int32), h1 o11 = some (xia N31 f32) ∧ x1 < N31 ∧ N31 < 2 ^ 31 ∧ (post none (xup h1 o11 (xia N31 (va_up f32 x1 (-1)))) n2))))))))) : Blk g M_X3_judgePlace post 0 [(0, .ref x0), (1, .int (nI x1)), (2, .ref x2)] [] h nx 0 0 := by
  refine r_aload_n 0 dX3_judgePlace_0 rfl rfl ?_
  refine r_iload_n 1 dX3_judgePlace_1 rfl rfl ?_
  obtain ⟨o4, o5, o6, o7, q3, V⟩ := V
  refine r_callV (M2 := M_X3_sortMarks) (ci := 4) (n := 1) (As := [.int (nI x1)]) rfl (wl5 wM_X3_32 wi_X3_sortMarks wS_X3_sortMarks wI_StateShares_Marks wc_X3_sortMarks) (by decide +kernel) (by decide) rfl rfl (Nat.le_of_ble_eq_true rfl) dX3_judgePlace_2 q3 (by decide) (by decide) (Ct.imp V (fun r h1 n2 V => ?_))
  obtain ⟨v8, rfl, V⟩ := V
  show Blk g M_X3_judgePlace post 5 [(0, .ref x0), (1, .int (nI x1)), (2, .ref x2)] [.int (nI v8)] h1 n2 0 0
  refine r_istore_n (L' := [(3, .int (nI v8)), (0, .ref x0), (1, .int (nI x1)), (2, .ref x2)]) dX3_judgePlace_5 rfl (by decide) rfl ?_
  refine r_aload_n 1 dX3_judgePlace_6 rfl rfl ?_
  obtain ⟨o10, o11, o12, o13, q9, V⟩ := V
  refine r_getf (ci := 4) (kf := 1) (T := TX3) rfl in_X3 (by decide) wF_X3_15 dX3_judgePlace_7 q9 rfl ?_
  refine r_iload_n 2 dX3_judgePlace_10 rfl rfl ?_
  refine r_iload_n 0 dX3_judgePlace_11 rfl rfl ?_
  obtain ⟨c, V⟩ := V
  refine r_if_neN (tgt := 19) dX3_judgePlace_12 (by decide) c (fun c => ?_) (fun c => ?_)
  · have V := V.1 c
    refine r_aload_n 3 dX3_judgePlace_19 rfl rfl ?_
    refine r_aload_n 1 dX3_judgePlace_20 rfl rfl ?_
    refine r_getf (ci := 4) (kf := 3) (T := TX3) rfl in_X3 (by decide) wF_X3_21 dX3_judgePlace_21 q9 rfl ?_
    refine r_iload_n 0 dX3_judgePlace_24 rfl rfl ?_
    obtain ⟨o17, o18, o19, o20, o21, o22, o23, o24, o25, q16, V⟩ := V
    refine r_callV (M2 := M_X7_judge) (ci := 8) (n := 2) (As := [.ref o13, .int (nI v8)]) rfl (wl5 wM_X3_36 wi_X7_judge wS_X7_judge wI_StateShares_Rules wc_X7_judge) (by decide +kernel) (by decide) rfl rfl (Nat.le_of_ble_eq_true rfl) dX3_judgePlace_25 q16 (by decide) (by decide) (Ct.imp V (fun r h14 n15 V => ?_))
    obtain ⟨v26, rfl, V⟩ := V
    show Blk g M_X3_judgePlace post 28 [(3, .int (nI v8)), (0, .ref x0), (1, .int (nI x1)), (2, .ref x2)] [.int v26, .int (nI x1), .ref o11] h14 n15 0 0
    obtain ⟨N28, f29, q27, V⟩ := V
    obtain ⟨c, cN, V⟩ := V
    refine r_iast dX3_judgePlace_28 q27 rfl c cN ?_
    show Blk g M_X3_judgePlace post 29 [(3, .int (nI v8)), (0, .ref x0), (1, .int (nI x1)), (2, .ref x2)] [] (xup h14 o11 (xia N28 (va_up f29 x1 v26))) n15 0 0
    exact r_vret dX3_judgePlace_29 rfl (by decide) (by decide) V
  · have V := V.2 c
    refine r_iconst (v := (-1)) dX3_judgePlace_15 rfl ?_
    refine r_goto (tgt := 28) dX3_judgePlace_16 (by decide) ?_
    obtain ⟨N31, f32, q30, V⟩ := V
    obtain ⟨c, cN, V⟩ := V
    refine r_iast dX3_judgePlace_28 q30 rfl c cN ?_
    show Blk g M_X3_judgePlace post 29 [(3, .int (nI v8)), (0, .ref x0), (1, .int (nI x1)), (2, .ref x2)] [] (xup h1 o11 (xia N31 (va_up f32 x1 (-1)))) n2 0 0
    exact r_vret dX3_judgePlace_29 rfl (by decide) (by decide) V
set_option maxRecDepth 20000 in
theorem v_X3_sortMarks_0 {g : xG} {post : xPost} {h : xHp} {nx : Nat} {x0 : Nat} {x1 : Nat} (V : Blk g M_X3_sortMarks post 4 [(0, .ref x0), (1, .int (nI x1)), (2, .int (nI 0)), (3, .int (nI 0))] [] h nx 0 0) : Blk g M_X3_sortMarks post 0 [(0, .ref x0), (1, .int (nI x1))] [] h nx 0 0 := by
  refine r_iconst (v := (nI 0)) dX3_sortMarks_0 rfl ?_
  refine r_istore_n (L' := [(2, .int (nI 0)), (0, .ref x0), (1, .int (nI x1))]) dX3_sortMarks_1 rfl (by decide) rfl ?_
  refine r_iconst (v := (nI 0)) dX3_sortMarks_2 rfl ?_
  refine r_istore_n (L' := [(3, .int (nI 0)), (2, .int (nI 0)), (0, .ref x0), (1, .int (nI x1))]) dX3_sortMarks_3 rfl (by decide) rfl ?_
  exact Blk.sub [2, 3, 1, 0] rfl V
set_option maxRecDepth 20000 in
theorem v_X3_sortMarks_4 {g : xG} {post : xPost} {h : xHp} {nx : Nat} {x0 : Nat} {x1 : Nat} {x2 : Nat} {x3 : Nat} (V : ((x3 < 2 ^ 31 ∧ 4 < 2 ^ 31) ∧ ((4 ≤ x3 → (post (some (.int (nI x2))) h nx)) ∧ (x3 < 4 → (∃ (o2 : Nat) (o3 : Nat) (o4 : Nat) (o5 : Nat), h x0 = some (xo 4 [.ref o2, .ref o3, .ref o4, .ref o5]) ∧ (∃ (N7 : Nat) (f8 : Nat → Int32), h o2 = some (xia N7 f8) ∧ ((x1 * 4) + x3) < N7 ∧ N7 < 2 ^ 31 ∧ (((f8 ((x1 * 4) + x3)) = (-1) → Blk g M_X3_sortMarks post 4 [(0, .ref x0), (1, .int (nI x1)), (2, .int (nI x2)), (3, .int (nI (x3 + 1)))] [] h nx 0 0) ∧ (¬ (f8 ((x1 * 4) + x3)) = (-1) → Blk g M_X3_sortMarks post 30 [(0, .ref x0), (1, .int (nI x1)), (2, .int (nI x2)), (3, .int (nI x3)), (4, .int (f8 ((x1 * 4) + x3))), (5, .int (nI x2))] [] h nx 0 0)))))))) : Blk g M_X3_sortMarks post 4 [(0, .ref x0), (1, .int (nI x1)), (2, .int (nI x2)), (3, .int (nI x3))] [] h nx 0 0 := by
  refine r_iload_n 3 dX3_sortMarks_4 rfl rfl ?_
  refine r_iconst (v := (nI 4)) dX3_sortMarks_5 rfl ?_
  obtain ⟨c, V⟩ := V
  refine r_icmp_geN (tgt := 89) dX3_sortMarks_6 (by decide) c (fun c => ?_) (fun c => ?_)
  · have V := V.1 c
    refine r_iload_n 2 dX3_sortMarks_89 rfl rfl ?_
    exact r_iret dX3_sortMarks_90 rfl (by decide) (by decide) V
  · have V := V.2 c
    refine r_aload_n 0 dX3_sortMarks_9 rfl rfl ?_
    obtain ⟨o2, o3, o4, o5, q1, V⟩ := V
    refine r_getf (ci := 4) (kf := 0) (T := TX3) rfl in_X3 (by decide) wF_X3_11 dX3_sortMarks_10 q1 rfl ?_
    refine r_iload_n 1 dX3_sortMarks_13 rfl rfl ?_
    refine r_iconst (v := (nI 4)) dX3_sortMarks_14 rfl ?_
    refine r_imulN dX3_sortMarks_15 ?_
    refine r_iload_n 3 dX3_sortMarks_16 rfl rfl ?_
    refine r_iaddN dX3_sortMarks_17 ?_
    obtain ⟨N7, f8, q6, V⟩ := V
    obtain ⟨c, cN, V⟩ := V
    refine r_iald dX3_sortMarks_18 q6 rfl c cN ?_
    show Blk g M_X3_sortMarks post 19 [(0, .ref x0), (1, .int (nI x1)), (2, .int (nI x2)), (3, .int (nI x3))] [.int (f8 ((x1 * 4) + x3))] h nx 0 0
    refine r_istore (L' := [(4, .int (f8 ((x1 * 4) + x3))), (0, .ref x0), (1, .int (nI x1)), (2, .int (nI x2)), (3, .int (nI x3))]) dX3_sortMarks_19 (by decide) rfl ?_
    refine r_iload 0 dX3_sortMarks_21 rfl ?_
    refine r_iconst (v := (-1)) dX3_sortMarks_23 rfl ?_
    refine r_icmp_eq (tgt := 83) dX3_sortMarks_24 (by decide) (fun c => ?_) (fun c => ?_)
    · have V := V.1 c
      refine r_iincN 4 (b := 1) (L' := [(3, .int (nI (x3 + 1))), (4, .int (f8 ((x1 * 4) + x3))), (0, .ref x0), (1, .int (nI x1)), (2, .int (nI x2))]) dX3_sortMarks_83 rfl rfl (by decide) rfl ?_
      refine r_goto (tgt := 4) dX3_sortMarks_86 (by decide) ?_
      exact Blk.sub [2, 3, 4, 0] rfl V
    · have V := V.2 c
      refine r_iload_n 3 dX3_sortMarks_27 rfl rfl ?_
      refine r_istore (L' := [(5, .int (nI x2)), (4, .int (f8 ((x1 * 4) + x3))), (0, .ref x0), (1, .int (nI x1)), (2, .int (nI x2)), (3, .int (nI x3))]) dX3_sortMarks_28 (by decide) rfl ?_
      exact Blk.sub [2, 3, 4, 5, 1, 0] rfl V
set_option maxRecDepth 20000 in
theorem v_X3_sortMarks_30 {g : xG} {post : xPost} {h : xHp} {nx : Nat} {x0 : Nat} {x1 : Nat} {x2 : Nat} {x3 : Nat} {x4 : Int32} {x5 : Nat} (V : (x5 < 2 ^ 31 ∧ ((x5 = 0 → (∃ (o2 : Nat) (o3 : Nat) (o4 : Nat) (o5 : Nat), h x0 = some (xo 4 [.ref o2, .ref o3, .ref o4, .ref o5]) ∧ (∃ (N7 : Nat) (f8 : Nat → Nat), h o5 = some (xna N7 f8) ∧ ∃ z9 : Nat, x4 = nI z9 ∧ x5 < N7 ∧ N7 < 2 ^ 31 ∧ Blk g M_X3_sortMarks post 4 [(0, .ref x0), (1, .int (nI x1)), (2, .int (nI (x2 + 1))), (3, .int (nI (x3 + 1)))] [] (xup h o5 (xna N7 (va_up f8 x5 z9))) nx 0 0))) ∧ (0 < x5 → (∃ (o12 : Nat) (o13 : Nat) (o14 : Nat) (o15 : Nat), h x0 = some (xo 4 [.ref o12, .ref o13, .ref o14, .ref o15]) ∧ (1 ≤ x5 ∧ (∃ (N17 : Nat) (f18 : Nat → Nat), h o15 = some (xna N17 f18) ∧ (x5 - 1) < N17 ∧ N17 < 2 ^ 31 ∧ (((nI (f18 (x5 - 1))) ≤ x4 → (∃ z19 : Nat, x4 = nI z19 ∧ x5 < N17 ∧ N17 < 2 ^ 31 ∧ Blk g M_X3_sortMarks post 4 [(0, .ref x0), (1, .int (nI x1)), (2, .int (nI (x2 + 1))), (3, .int (nI (x3 + 1)))] [] (xup h o15 (xna N17 (va_up f18 x5 z19))) nx 0 0)) ∧ (¬ (nI (f18 (x5 - 1))) ≤ x4 → (1 ≤ x5 ∧ ((x5 - 1) < N17 ∧ N17 < 2 ^ 31 ∧ (x5 < N17 ∧ N17 < 2 ^ 31 ∧ (1 ≤ x5 ∧ Blk g M_X3_sortMarks post 30 [(0, .ref x0), (1, .int (nI x1)), (2, .int (nI x2)), (3, .int (nI x3)), (4, .int x4), (5, .int (nI (x5 - 1)))] [] (xup h o15 (xna N17 (va_up f18 x5 (f18 (x5 - 1))))) nx 0 0))))))))))))) : Blk g M_X3_sortMarks post 30 [(0, .ref x0), (1, .int (nI x1)), (2, .int (nI x2)), (3, .int (nI x3)), (4, .int x4), (5, .int (nI x5))] [] h nx 0 0 := by
  refine r_iload 5 dX3_sortMarks_30 rfl ?_
  obtain ⟨c, V⟩ := V
  refine r_if_leN (tgt := 71) dX3_sortMarks_32 (by decide) c (fun c => ?_) (fun c => ?_)
  · have V := V.1 c
    refine r_aload_n 0 dX3_sortMarks_71 rfl rfl ?_
    obtain ⟨o2, o3, o4, o5, q1, V⟩ := V
    refine r_getf (ci := 4) (kf := 3) (T := TX3) rfl in_X3 (by decide) wF_X3_21 dX3_sortMarks_72 q1 rfl ?_
    refine r_iload 5 dX3_sortMarks_75 rfl ?_
    refine r_iload 4 dX3_sortMarks_77 rfl ?_
    obtain ⟨N7, f8, q6, V⟩ := V
    obtain ⟨z9, e10, V⟩ := V
    refine Blk.to (st' := [.int (nI z9), .int (nI x5), .ref o5]) ?_ ⟨rfl, by rw [e10], rfl⟩
    obtain ⟨c, cN, V⟩ := V
    refine r_iastN dX3_sortMarks_79 q6 c cN ?_
    show Blk g M_X3_sortMarks post 80 [(0, .ref x0), (1, .int (nI x1)), (2, .int (nI x2)), (3, .int (nI x3)), (4, .int x4), (5, .int (nI x5))] [] (xup h o5 (xna N7 (va_up f8 x5 z9))) nx 0 0
    refine r_iincN 2 (b := 1) (L' := [(2, .int (nI (x2 + 1))), (0, .ref x0), (1, .int (nI x1)), (3, .int (nI x3)), (4, .int x4), (5, .int (nI x5))]) dX3_sortMarks_80 rfl rfl (by decide) rfl ?_
    refine r_iincN 3 (b := 1) (L' := [(3, .int (nI (x3 + 1))), (2, .int (nI (x2 + 1))), (0, .ref x0), (1, .int (nI x1)), (4, .int x4), (5, .int (nI x5))]) dX3_sortMarks_83 rfl rfl (by decide) rfl ?_
    refine r_goto (tgt := 4) dX3_sortMarks_86 (by decide) ?_
    exact Blk.sub [2, 3, 1, 0] rfl V
  · have V := V.2 c
    refine r_aload_n 0 dX3_sortMarks_35 rfl rfl ?_
    obtain ⟨o12, o13, o14, o15, q11, V⟩ := V
    refine r_getf (ci := 4) (kf := 3) (T := TX3) rfl in_X3 (by decide) wF_X3_21 dX3_sortMarks_36 q11 rfl ?_
    refine r_iload 5 dX3_sortMarks_39 rfl ?_
    refine r_iconst (v := (nI 1)) dX3_sortMarks_41 rfl ?_
    obtain ⟨c, V⟩ := V
    refine r_isubN dX3_sortMarks_42 c ?_
    obtain ⟨N17, f18, q16, V⟩ := V
    obtain ⟨c, cN, V⟩ := V
    refine r_iald dX3_sortMarks_43 q16 rfl c cN ?_
    show Blk g M_X3_sortMarks post 44 [(0, .ref x0), (1, .int (nI x1)), (2, .int (nI x2)), (3, .int (nI x3)), (4, .int x4), (5, .int (nI x5))] [.int (nI (f18 (x5 - 1)))] h nx 0 0
    refine r_iload 4 dX3_sortMarks_44 rfl ?_
    refine r_icmp_le (tgt := 71) dX3_sortMarks_46 (by decide) (fun c => ?_) (fun c => ?_)
    · have V := V.1 c
      refine r_aload_n 0 dX3_sortMarks_71 rfl rfl ?_
      refine r_getf (ci := 4) (kf := 3) (T := TX3) rfl in_X3 (by decide) wF_X3_21 dX3_sortMarks_72 q11 rfl ?_
      refine r_iload 5 dX3_sortMarks_75 rfl ?_
      refine r_iload 4 dX3_sortMarks_77 rfl ?_
      obtain ⟨z19, e20, V⟩ := V
      refine Blk.to (st' := [.int (nI z19), .int (nI x5), .ref o15]) ?_ ⟨rfl, by rw [e20], rfl⟩
      obtain ⟨c, cN, V⟩ := V
      refine r_iastN dX3_sortMarks_79 q16 c cN ?_
      show Blk g M_X3_sortMarks post 80 [(0, .ref x0), (1, .int (nI x1)), (2, .int (nI x2)), (3, .int (nI x3)), (4, .int x4), (5, .int (nI x5))] [] (xup h o15 (xna N17 (va_up f18 x5 z19))) nx 0 0
      refine r_iincN 2 (b := 1) (L' := [(2, .int (nI (x2 + 1))), (0, .ref x0), (1, .int (nI x1)), (3, .int (nI x3)), (4, .int x4), (5, .int (nI x5))]) dX3_sortMarks_80 rfl rfl (by decide) rfl ?_
      refine r_iincN 3 (b := 1) (L' := [(3, .int (nI (x3 + 1))), (2, .int (nI (x2 + 1))), (0, .ref x0), (1, .int (nI x1)), (4, .int x4), (5, .int (nI x5))]) dX3_sortMarks_83 rfl rfl (by decide) rfl ?_
      refine r_goto (tgt := 4) dX3_sortMarks_86 (by decide) ?_
      exact Blk.sub [2, 3, 1, 0] rfl V
    · have V := V.2 c
      refine r_aload_n 0 dX3_sortMarks_49 rfl rfl ?_
      refine r_getf (ci := 4) (kf := 3) (T := TX3) rfl in_X3 (by decide) wF_X3_21 dX3_sortMarks_50 q11 rfl ?_
      refine r_iload 5 dX3_sortMarks_53 rfl ?_
      refine r_aload_n 0 dX3_sortMarks_55 rfl rfl ?_
      refine r_getf (ci := 4) (kf := 3) (T := TX3) rfl in_X3 (by decide) wF_X3_21 dX3_sortMarks_56 q11 rfl ?_
      refine r_iload 5 dX3_sortMarks_59 rfl ?_
      refine r_iconst (v := (nI 1)) dX3_sortMarks_61 rfl ?_
      obtain ⟨c, V⟩ := V
      refine r_isubN dX3_sortMarks_62 c ?_
      obtain ⟨c, cN, V⟩ := V
      refine r_iald dX3_sortMarks_63 q16 rfl c cN ?_
      show Blk g M_X3_sortMarks post 64 [(0, .ref x0), (1, .int (nI x1)), (2, .int (nI x2)), (3, .int (nI x3)), (4, .int x4), (5, .int (nI x5))] [.int (nI (f18 (x5 - 1))), .int (nI x5), .ref o15] h nx 0 0
      obtain ⟨c, cN, V⟩ := V
      refine r_iastN dX3_sortMarks_64 q16 c cN ?_
      show Blk g M_X3_sortMarks post 65 [(0, .ref x0), (1, .int (nI x1)), (2, .int (nI x2)), (3, .int (nI x3)), (4, .int x4), (5, .int (nI x5))] [] (xup h o15 (xna N17 (va_up f18 x5 (f18 (x5 - 1))))) nx 0 0
      obtain ⟨c, V⟩ := V
      refine r_idecN 5 (L' := [(5, .int (nI (x5 - 1))), (0, .ref x0), (1, .int (nI x1)), (2, .int (nI x2)), (3, .int (nI x3)), (4, .int x4)]) dX3_sortMarks_65 rfl c (by decide) rfl ?_
      refine r_goto (tgt := 30) dX3_sortMarks_68 (by decide) ?_
      exact Blk.sub [1, 2, 3, 4, 5, 0] rfl V
set_option maxRecDepth 20000 in
theorem v_X3_firstState_0 {g : xG} {post : xPost} {h : xHp} {nx : Nat} {x0 : Nat} {x1 : Nat} (V : (∃ (o4 : Nat) (o5 : Nat) (o6 : Nat) (o7 : Nat), h x0 = some (xo 4 [.ref o4, .ref o5, .ref o6, .ref o7]) ∧ Ct g M_X3_stateOf [.ref x0, .int (nI x1), .int (nI 0)] h nx (fun r h1 n2 => ∃ v8 : Int32, r = some (.int v8) ∧ ((v8 = (-1) → Blk g M_X3_firstState post 16 [(0, .ref x0), (1, .int (nI x1)), (3, .int (nI 0))] [] h1 n2 0 0) ∧ (¬ v8 = (-1) → (post (some (.int v8)) h1 n2)))))) : Blk g M_X3_firstState post 0 [(0, .ref x0), (1, .int (nI x1))] [] h nx 0 0 := by
  refine r_aload_n 0 dX3_firstState_0 rfl rfl ?_
  refine r_iload_n 1 dX3_firstState_1 rfl rfl ?_
  refine r_iconst (v := (nI 0)) dX3_firstState_2 rfl ?_
  obtain ⟨o4, o5, o6, o7, q3, V⟩ := V
  refine r_callV (M2 := M_X3_stateOf) (ci := 4) (n := 2) (As := [.int (nI x1), .int (nI 0)]) rfl (wl5 wM_X3_42 wi_X3_stateOf wS_X3_stateOf wI_StateShares_Marks wc_X3_stateOf) (by decide +kernel) (by decide) rfl rfl (Nat.le_of_ble_eq_true rfl) dX3_firstState_3 q3 (by decide) (by decide) (Ct.imp V (fun r h1 n2 V => ?_))
  obtain ⟨v8, rfl, V⟩ := V
  show Blk g M_X3_firstState post 6 [(0, .ref x0), (1, .int (nI x1))] [.int v8] h1 n2 0 0
  refine r_istore_n (L' := [(2, .int v8), (0, .ref x0), (1, .int (nI x1))]) dX3_firstState_6 rfl (by decide) rfl ?_
  refine r_iload_n 0 dX3_firstState_7 rfl rfl ?_
  refine r_iconst (v := (-1)) dX3_firstState_8 rfl ?_
  refine r_icmp_eq (tgt := 14) dX3_firstState_9 (by decide) (fun c => ?_) (fun c => ?_)
  · have V := V.1 c
    refine r_iconst (v := (nI 0)) dX3_firstState_14 rfl ?_
    refine r_istore_n (L' := [(3, .int (nI 0)), (2, .int v8), (0, .ref x0), (1, .int (nI x1))]) dX3_firstState_15 rfl (by decide) rfl ?_
    exact Blk.sub [2, 3, 0] rfl V
  · have V := V.2 c
    refine r_iload_n 0 dX3_firstState_12 rfl rfl ?_
    exact r_iret dX3_firstState_13 rfl (by decide) (by decide) V
set_option maxRecDepth 20000 in
theorem v_X3_firstState_16 {g : xG} {post : xPost} {h : xHp} {nx : Nat} {x0 : Nat} {x1 : Nat} {x3 : Nat} (V : ((x3 < 2 ^ 31 ∧ 10 < 2 ^ 31) ∧ ((10 ≤ x3 → (post (some (.int (nI 0))) h nx)) ∧ (x3 < 10 → (∃ (o2 : Nat) (o3 : Nat) (o4 : Nat) (o5 : Nat), h x0 = some (xo 4 [.ref o2, .ref o3, .ref o4, .ref o5]) ∧ (∃ (N7 : Nat) (f8 : Nat → Nat), h o4 = some (xna N7 f8) ∧ x3 < N7 ∧ N7 < 2 ^ 31 ∧ (x1 < N7 ∧ N7 < 2 ^ 31 ∧ (((f8 x3) < 2 ^ 31 ∧ (f8 x1) < 2 ^ 31) ∧ ((¬ (f8 x3) = (f8 x1) → Blk g M_X3_firstState post 16 [(0, .ref x0), (1, .int (nI x1)), (3, .int (nI (x3 + 1)))] [] h nx 0 0) ∧ ((f8 x3) = (f8 x1) → (Ct g M_X3_stateOf [.ref x0, .int (nI x3), .int (nI 0)] h nx (fun r h9 n10 => ∃ v11 : Int32, r = some (.int v11) ∧ ((v11 = (-1) → Blk g M_X3_firstState post 16 [(0, .ref x0), (1, .int (nI x1)), (3, .int (nI (x3 + 1)))] [] h9 n10 0 0) ∧ (¬ v11 = (-1) → (∃ (o15 : Nat) (o16 : Nat) (o17 : Nat) (o18 : Nat), h9 x0 = some (xo 4 [.ref o15, .ref o16, .ref o17, .ref o18]) ∧ Ct g M_X3_stateOf [.ref x0, .int (nI x3), .int (nI 0)] h9 n10 (fun r h12 n13 => ∃ v19 : Int32, r = some (.int v19) ∧ (post (some (.int v19)) h12 n13))))))))))))))))) : Blk g M_X3_firstState post 16 [(0, .ref x0), (1, .int (nI x1)), (3, .int (nI x3))] [] h nx 0 0 := by
  refine r_iload_n 2 dX3_firstState_16 rfl rfl ?_
  refine r_bipush (v := (nI 10)) dX3_firstState_17 rfl ?_
  obtain ⟨c, V⟩ := V
  refine r_icmp_geN (tgt := 60) dX3_firstState_19 (by decide) c (fun c => ?_) (fun c => ?_)
  · have V := V.1 c
    refine r_iconst (v := (nI 0)) dX3_firstState_60 rfl ?_
    exact r_iret dX3_firstState_61 rfl (by decide) (by decide) V
  · have V := V.2 c
    refine r_aload_n 0 dX3_firstState_22 rfl rfl ?_
    obtain ⟨o2, o3, o4, o5, q1, V⟩ := V
    refine r_getf (ci := 4) (kf := 2) (T := TX3) rfl in_X3 (by decide) wF_X3_18 dX3_firstState_23 q1 rfl ?_
    refine r_iload_n 2 dX3_firstState_26 rfl rfl ?_
    obtain ⟨N7, f8, q6, V⟩ := V
    obtain ⟨c, cN, V⟩ := V
    refine r_iald dX3_firstState_27 q6 rfl c cN ?_
    show Blk g M_X3_firstState post 28 [(0, .ref x0), (1, .int (nI x1)), (3, .int (nI x3))] [.int (nI (f8 x3))] h nx 0 0
    refine r_aload_n 0 dX3_firstState_28 rfl rfl ?_
    refine r_getf (ci := 4) (kf := 2) (T := TX3) rfl in_X3 (by decide) wF_X3_18 dX3_firstState_29 q1 rfl ?_
    refine r_iload_n 1 dX3_firstState_32 rfl rfl ?_
    obtain ⟨c, cN, V⟩ := V
    refine r_iald dX3_firstState_33 q6 rfl c cN ?_
    show Blk g M_X3_firstState post 34 [(0, .ref x0), (1, .int (nI x1)), (3, .int (nI x3))] [.int (nI (f8 x1)), .int (nI (f8 x3))] h nx 0 0
    obtain ⟨c, V⟩ := V
    refine r_icmp_neN (tgt := 54) dX3_firstState_34 (by decide) c (fun c => ?_) (fun c => ?_)
    · have V := V.1 c
      refine r_iincN 2 (b := 1) (L' := [(3, .int (nI (x3 + 1))), (0, .ref x0), (1, .int (nI x1))]) dX3_firstState_54 rfl rfl (by decide) rfl ?_
      refine r_goto (tgt := 16) dX3_firstState_57 (by decide) ?_
      exact Blk.sub [1, 2, 0] rfl V
    · have V := V.2 c
      refine r_aload_n 0 dX3_firstState_37 rfl rfl ?_
      refine r_iload_n 2 dX3_firstState_38 rfl rfl ?_
      refine r_iconst (v := (nI 0)) dX3_firstState_39 rfl ?_
      refine r_callV (M2 := M_X3_stateOf) (ci := 4) (n := 2) (As := [.int (nI x3), .int (nI 0)]) rfl (wl5 wM_X3_42 wi_X3_stateOf wS_X3_stateOf wI_StateShares_Marks wc_X3_stateOf) (by decide +kernel) (by decide) rfl rfl (Nat.le_of_ble_eq_true rfl) dX3_firstState_40 q1 (by decide) (by decide) (Ct.imp V (fun r h9 n10 V => ?_))
      obtain ⟨v11, rfl, V⟩ := V
      show Blk g M_X3_firstState post 43 [(0, .ref x0), (1, .int (nI x1)), (3, .int (nI x3))] [.int v11] h9 n10 0 0
      refine r_iconst (v := (-1)) dX3_firstState_43 rfl ?_
      refine r_icmp_eq (tgt := 54) dX3_firstState_44 (by decide) (fun c => ?_) (fun c => ?_)
      · have V := V.1 c
        refine r_iincN 2 (b := 1) (L' := [(3, .int (nI (x3 + 1))), (0, .ref x0), (1, .int (nI x1))]) dX3_firstState_54 rfl rfl (by decide) rfl ?_
        refine r_goto (tgt := 16) dX3_firstState_57 (by decide) ?_
        exact Blk.sub [1, 2, 0] rfl V
      · have V := V.2 c
        refine r_aload_n 0 dX3_firstState_47 rfl rfl ?_
        refine r_iload_n 2 dX3_firstState_48 rfl rfl ?_
        refine r_iconst (v := (nI 0)) dX3_firstState_49 rfl ?_
        obtain ⟨o15, o16, o17, o18, q14, V⟩ := V
        refine r_callV (M2 := M_X3_stateOf) (ci := 4) (n := 2) (As := [.int (nI x3), .int (nI 0)]) rfl (wl5 wM_X3_42 wi_X3_stateOf wS_X3_stateOf wI_StateShares_Marks wc_X3_stateOf) (by decide +kernel) (by decide) rfl rfl (Nat.le_of_ble_eq_true rfl) dX3_firstState_50 q14 (by decide) (by decide) (Ct.imp V (fun r h12 n13 V => ?_))
        obtain ⟨v19, rfl, V⟩ := V
        show Blk g M_X3_firstState post 53 [(0, .ref x0), (1, .int (nI x1)), (3, .int (nI x3))] [.int v19] h12 n13 0 0
        exact r_iret dX3_firstState_53 rfl (by decide) (by decide) V
set_option maxRecDepth 20000 in
theorem v_X3_gap_0 {g : xG} {post : xPost} {h : xHp} {nx : Nat} {x0 : Nat} {x1 : Int32} (V : Blk g M_X3_gap post 4 [(0, .ref x0), (2, .int x1), (3, .int (nI 0))] [] h nx 0 0) : Blk g M_X3_gap post 0 [(0, .ref x0), (1, .int x1)] [] h nx 0 0 := by
  refine r_iload_n 1 dX3_gap_0 rfl rfl ?_
  refine r_istore_n (L' := [(2, .int x1), (0, .ref x0), (1, .int x1)]) dX3_gap_1 rfl (by decide) rfl ?_
  refine r_iconst (v := (nI 0)) dX3_gap_2 rfl ?_
  refine r_istore_n (L' := [(3, .int (nI 0)), (2, .int x1), (0, .ref x0), (1, .int x1)]) dX3_gap_3 rfl (by decide) rfl ?_
  exact Blk.sub [2, 1, 0] rfl V
set_option maxRecDepth 20000 in
theorem v_X3_gap_4 {g : xG} {post : xPost} {h : xHp} {nx : Nat} {x0 : Nat} {x2 : Int32} {x3 : Nat} (V : ((x3 < 2 ^ 31 ∧ 10 < 2 ^ 31) ∧ ((10 ≤ x3 → (post (some (.int (-1))) h nx)) ∧ (x3 < 10 → (∃ (o4 : Nat) (o5 : Nat) (o6 : Nat) (o7 : Nat), h x0 = some (xo 4 [.ref o4, .ref o5, .ref o6, .ref o7]) ∧ Ct g M_X3_lastGraded [.ref x0, .int (nI x3)] h nx (fun r h1 n2 => ∃ v8 : Int32, r = some (.int v8) ∧ Blk g M_X3_gap post 23 [(0, .ref x0), (2, .int x2), (3, .int (nI x3)), (4, .int v8), (5, .int (nI 0)), (6, .int (nI 0))] [] h1 n2 0 0)))))) : Blk g M_X3_gap post 4 [(0, .ref x0), (2, .int x2), (3, .int (nI x3))] [] h nx 0 0 := by
  refine r_iload_n 2 dX3_gap_4 rfl rfl ?_
  refine r_bipush (v := (nI 10)) dX3_gap_5 rfl ?_
  obtain ⟨c, V⟩ := V
  refine r_icmp_geN (tgt := 79) dX3_gap_7 (by decide) c (fun c => ?_) (fun c => ?_)
  · have V := V.1 c
    refine r_iconst (v := (-1)) dX3_gap_79 rfl ?_
    exact r_iret dX3_gap_80 rfl (by decide) (by decide) V
  · have V := V.2 c
    refine r_aload_n 0 dX3_gap_10 rfl rfl ?_
    refine r_iload_n 2 dX3_gap_11 rfl rfl ?_
    obtain ⟨o4, o5, o6, o7, q3, V⟩ := V
    refine r_callV (M2 := M_X3_lastGraded) (ci := 4) (n := 1) (As := [.int (nI x3)]) rfl (wl5 wM_X3_45 wi_X3_lastGraded wS_X3_lastGraded wI_StateShares_Marks wc_X3_lastGraded) (by decide +kernel) (by decide) rfl rfl (Nat.le_of_ble_eq_true rfl) dX3_gap_12 q3 (by decide) (by decide) (Ct.imp V (fun r h1 n2 V => ?_))
    obtain ⟨v8, rfl, V⟩ := V
    show Blk g M_X3_gap post 15 [(0, .ref x0), (2, .int x2), (3, .int (nI x3))] [.int v8] h1 n2 0 0
    refine r_istore (L' := [(4, .int v8), (0, .ref x0), (2, .int x2), (3, .int (nI x3))]) dX3_gap_15 (by decide) rfl ?_
    refine r_iconst (v := (nI 0)) dX3_gap_17 rfl ?_
    refine r_istore (L' := [(5, .int (nI 0)), (4, .int v8), (0, .ref x0), (2, .int x2), (3, .int (nI x3))]) dX3_gap_18 (by decide) rfl ?_
    refine r_iconst (v := (nI 0)) dX3_gap_20 rfl ?_
    refine r_istore (L' := [(6, .int (nI 0)), (5, .int (nI 0)), (4, .int v8), (0, .ref x0), (2, .int x2), (3, .int (nI x3))]) dX3_gap_21 (by decide) rfl ?_
    exact Blk.sub [3, 4, 5, 2, 1, 0] rfl V
set_option maxRecDepth 20000 in
theorem v_X3_gap_23 {g : xG} {post : xPost} {h : xHp} {nx : Nat} {x0 : Nat} {x2 : Int32} {x3 : Nat} {x4 : Int32} {x5 : Nat} {x6 : Nat} (V : ((x4 ≤ (nI x6) → Blk g M_X3_gap post 4 [(0, .ref x0), (2, .int x2), (3, .int (nI (x3 + 1)))] [] h nx 0 0) ∧ (¬ x4 ≤ (nI x6) → (∃ (o4 : Nat) (o5 : Nat) (o6 : Nat) (o7 : Nat), h x0 = some (xo 4 [.ref o4, .ref o5, .ref o6, .ref o7]) ∧ Ct g M_X3_stateOf [.ref x0, .int (nI x3), .int (nI x6)] h nx (fun r h1 n2 => ∃ v8 : Int32, r = some (.int v8) ∧ ((v8 = (-1) → (x5 < 2 ^ 31 ∧ ((x5 = 0 → Blk g M_X3_gap post 23 [(0, .ref x0), (2, .int x2), (3, .int (nI x3)), (4, .int x4), (5, .int (nI x5)), (6, .int (nI (x6 + 1)))] [] h1 n2 0 0) ∧ (¬ x5 = 0 → ((¬ x2 = 0 → Blk g M_X3_gap post 23 [(0, .ref x0), (2, .int (x2 + (-1))), (3, .int (nI x3)), (4, .int x4), (5, .int (nI x5)), (6, .int (nI (x6 + 1)))] [] h1 n2 0 0) ∧ (x2 = 0 → (post (some (.int (nI ((16 * x3) + x6)))) h1 n2))))))) ∧ (¬ v8 = (-1) → Blk g M_X3_gap post 23 [(0, .ref x0), (2, .int x2), (3, .int (nI x3)), (4, .int x4), (5, .int (nI 1)), (6, .int (nI (x6 + 1)))] [] h1 n2 0 0))))))) : Blk g M_X3_gap post 23 [(0, .ref x0), (2, .int x2), (3, .int (nI x3)), (4, .int x4), (5, .int (nI x5)), (6, .int (nI x6))] [] h nx 0 0 := by
  refine r_iload 5 dX3_gap_23 rfl ?_
  refine r_iload 3 dX3_gap_25 rfl ?_
  refine r_icmp_ge (tgt := 73) dX3_gap_27 (by decide) (fun c => ?_) (fun c => ?_)
  · have V := V.1 c
    refine r_iincN 2 (b := 1) (L' := [(3, .int (nI (x3 + 1))), (0, .ref x0), (2, .int x2), (4, .int x4), (5, .int (nI x5)), (6, .int (nI x6))]) dX3_gap_73 rfl rfl (by decide) rfl ?_
    refine r_goto (tgt := 4) dX3_gap_76 (by decide) ?_
    exact Blk.sub [1, 2, 0] rfl V
  · have V := V.2 c
    refine r_aload_n 0 dX3_gap_30 rfl rfl ?_
    refine r_iload_n 2 dX3_gap_31 rfl rfl ?_
    refine r_iload 5 dX3_gap_32 rfl ?_
    obtain ⟨o4, o5, o6, o7, q3, V⟩ := V
    refine r_callV (M2 := M_X3_stateOf) (ci := 4) (n := 2) (As := [.int (nI x3), .int (nI x6)]) rfl (wl5 wM_X3_42 wi_X3_stateOf wS_X3_stateOf wI_StateShares_Marks wc_X3_stateOf) (by decide +kernel) (by decide) rfl rfl (Nat.le_of_ble_eq_true rfl) dX3_gap_34 q3 (by decide) (by decide) (Ct.imp V (fun r h1 n2 V => ?_))
    obtain ⟨v8, rfl, V⟩ := V
    show Blk g M_X3_gap post 37 [(0, .ref x0), (2, .int x2), (3, .int (nI x3)), (4, .int x4), (5, .int (nI x5)), (6, .int (nI x6))] [.int v8] h1 n2 0 0
    refine r_iconst (v := (-1)) dX3_gap_37 rfl ?_
    refine r_icmp_eq (tgt := 47) dX3_gap_38 (by decide) (fun c => ?_) (fun c => ?_)
    · have V := V.1 c
      refine r_iload 4 dX3_gap_47 rfl ?_
      obtain ⟨c, V⟩ := V
      refine r_if_eqN (tgt := 67) dX3_gap_49 (by decide) c (fun c => ?_) (fun c => ?_)
      · have V := V.1 c
        refine r_iincN 5 (b := 1) (L' := [(6, .int (nI (x6 + 1))), (0, .ref x0), (2, .int x2), (3, .int (nI x3)), (4, .int x4), (5, .int (nI x5))]) dX3_gap_67 rfl rfl (by decide) rfl ?_
        refine r_goto (tgt := 23) dX3_gap_70 (by decide) ?_
        exact Blk.sub [1, 2, 3, 4, 5, 0] rfl V
      · have V := V.2 c
        refine r_iload_n 1 dX3_gap_52 rfl rfl ?_
        refine r_if_ne (tgt := 64) dX3_gap_53 (by decide) (fun c => ?_) (fun c => ?_)
        · have V := V.1 c
          refine r_iinc 1 (v := (-1)) (L' := [(2, .int (x2 + (-1))), (0, .ref x0), (3, .int (nI x3)), (4, .int x4), (5, .int (nI x5)), (6, .int (nI x6))]) dX3_gap_64 rfl rfl (by decide) rfl ?_
          refine r_iincN 5 (b := 1) (L' := [(6, .int (nI (x6 + 1))), (2, .int (x2 + (-1))), (0, .ref x0), (3, .int (nI x3)), (4, .int x4), (5, .int (nI x5))]) dX3_gap_67 rfl rfl (by decide) rfl ?_
          refine r_goto (tgt := 23) dX3_gap_70 (by decide) ?_
          exact Blk.sub [2, 1, 3, 4, 5, 0] rfl V
        · have V := V.2 c
          refine r_bipush (v := (nI 16)) dX3_gap_56 rfl ?_
          refine r_iload_n 2 dX3_gap_58 rfl rfl ?_
          refine r_imulN dX3_gap_59 ?_
          refine r_iload 5 dX3_gap_60 rfl ?_
          refine r_iaddN dX3_gap_62 ?_
          exact r_iret dX3_gap_63 rfl (by decide) (by decide) V
    · have V := V.2 c
      refine r_iconst (v := (nI 1)) dX3_gap_41 rfl ?_
      refine r_istore (L' := [(5, .int (nI 1)), (0, .ref x0), (2, .int x2), (3, .int (nI x3)), (4, .int x4), (6, .int (nI x6))]) dX3_gap_42 (by decide) rfl ?_
      refine r_goto (tgt := 67) dX3_gap_44 (by decide) ?_
      refine r_iincN 5 (b := 1) (L' := [(6, .int (nI (x6 + 1))), (5, .int (nI 1)), (0, .ref x0), (2, .int x2), (3, .int (nI x3)), (4, .int x4)]) dX3_gap_67 rfl rfl (by decide) rfl ?_
      refine r_goto (tgt := 23) dX3_gap_70 (by decide) ?_
      exact Blk.sub [2, 3, 4, 5, 1, 0] rfl V
set_option maxRecDepth 20000 in
theorem v_X3_lastGraded_0 {g : xG} {post : xPost} {h : xHp} {nx : Nat} {x0 : Nat} {x1 : Nat} (V : Blk g M_X3_lastGraded post 3 [(0, .ref x0), (1, .int (nI x1)), (2, .int (nI 12 - nI 1))] [] h nx 0 0) : Blk g M_X3_lastGraded post 0 [(0, .ref x0), (1, .int (nI x1))] [] h nx 0 0 := by
  refine r_bipush (v := (nI 11)) dX3_lastGraded_0 rfl ?_
  refine r_istore_n (L' := [(2, .int (nI 11)), (0, .ref x0), (1, .int (nI x1))]) dX3_lastGraded_2 rfl (by decide) rfl ?_
  exact Blk.sub (L' := [(0, .ref x0), (1, .int (nI x1)), (2, .int (nI 12 - nI 1))]) [1, 2, 0] (by rw [n_toP 11]; rfl) V
set_option maxRecDepth 20000 in
theorem v_X3_lastGraded_3 {g : xG} {post : xPost} {h : xHp} {nx : Nat} {x0 : Nat} {x1 : Nat} {x2 : Nat} (V : (x2 < 2 ^ 31 ∧ ((x2 = 0 → (post (some (.int (-1))) h nx)) ∧ (0 < x2 → (∃ (o4 : Nat) (o5 : Nat) (o6 : Nat) (o7 : Nat), h x0 = some (xo 4 [.ref o4, .ref o5, .ref o6, .ref o7]) ∧ Ct g M_X3_stateOf [.ref x0, .int (nI x1), .int (nI x2 - nI 1)] h nx (fun r h1 n2 => ∃ v8 : Int32, r = some (.int v8) ∧ ((v8 = (-1) → (1 ≤ x2 ∧ Blk g M_X3_lastGraded post 3 [(0, .ref x0), (1, .int (nI x1)), (2, .int (nI (x2 - 1) - nI 1))] [] h1 n2 0 0)) ∧ (¬ v8 = (-1) → (post (some (.int (nI x2 - nI 1))) h1 n2))))))))) : Blk g M_X3_lastGraded post 3 [(0, .ref x0), (1, .int (nI x1)), (2, .int (nI x2 - nI 1))] [] h nx 0 0 := by
  refine r_iload_n 2 dX3_lastGraded_3 rfl rfl ?_
  obtain ⟨c, V⟩ := V
  refine r_if_ltP (tgt := 25) dX3_lastGraded_4 (by decide) c (fun c => ?_) (fun c => ?_)
  · have V := V.1 c
    refine r_iconst (v := (-1)) dX3_lastGraded_25 rfl ?_
    exact r_iret dX3_lastGraded_26 rfl (by decide) (by decide) V
  · have V := V.2 c
    refine r_aload_n 0 dX3_lastGraded_7 rfl rfl ?_
    refine r_iload_n 1 dX3_lastGraded_8 rfl rfl ?_
    refine r_iload_n 2 dX3_lastGraded_9 rfl rfl ?_
    obtain ⟨o4, o5, o6, o7, q3, V⟩ := V
    refine r_callV (M2 := M_X3_stateOf) (ci := 4) (n := 2) (As := [.int (nI x1), .int (nI x2 - nI 1)]) rfl (wl5 wM_X3_42 wi_X3_stateOf wS_X3_stateOf wI_StateShares_Marks wc_X3_stateOf) (by decide +kernel) (by decide) rfl rfl (Nat.le_of_ble_eq_true rfl) dX3_lastGraded_10 q3 (by decide) (by decide) (Ct.imp V (fun r h1 n2 V => ?_))
    obtain ⟨v8, rfl, V⟩ := V
    show Blk g M_X3_lastGraded post 13 [(0, .ref x0), (1, .int (nI x1)), (2, .int (nI x2 - nI 1))] [.int v8] h1 n2 0 0
    refine r_iconst (v := (-1)) dX3_lastGraded_13 rfl ?_
    refine r_icmp_eq (tgt := 19) dX3_lastGraded_14 (by decide) (fun c => ?_) (fun c => ?_)
    · have V := V.1 c
      obtain ⟨c, V⟩ := V
      refine r_idecP 2 (L' := [(2, .int (nI (x2 - 1) - nI 1)), (0, .ref x0), (1, .int (nI x1))]) dX3_lastGraded_19 rfl c (by decide) rfl ?_
      refine r_goto (tgt := 3) dX3_lastGraded_22 (by decide) ?_
      exact Blk.sub [1, 2, 0] rfl V
    · have V := V.2 c
      refine r_iload_n 2 dX3_lastGraded_17 rfl rfl ?_
      exact r_iret dX3_lastGraded_18 rfl (by decide) (by decide) V
set_option maxRecDepth 20000 in
theorem v_X3_bothSaw_0 {g : xG} {post : xPost} {h : xHp} {nx : Nat} {x0 : Nat} {x1 : Nat} {x2 : Nat} {x3 : Nat} (V : (∃ (o2 : Nat) (o3 : Nat) (o4 : Nat) (o5 : Nat), h x0 = some (xo 4 [.ref o2, .ref o3, .ref o4, .ref o5]) ∧ (∃ (N7 : Nat) (f8 : Nat → Int32), h o2 = some (xia N7 f8) ∧ ((x1 * 4) + x2) < N7 ∧ N7 < 2 ^ 31 ∧ (((f8 ((x1 * 4) + x2)) = (-1) → (post (some (.int (nI 0))) h nx)) ∧ (¬ (f8 ((x1 * 4) + x2)) = (-1) → (((x1 * 4) + x3) < N7 ∧ N7 < 2 ^ 31 ∧ (((f8 ((x1 * 4) + x3)) = (-1) → (post (some (.int (nI 0))) h nx)) ∧ (¬ (f8 ((x1 * 4) + x3)) = (-1) → (post (some (.int (nI 1))) h nx))))))))) : Blk g M_X3_bothSaw post 0 [(0, .ref x0), (1, .int (nI x1)), (2, .int (nI x2)), (3, .int (nI x3))] [] h nx 0 0 := by
  refine r_aload_n 0 dX3_bothSaw_0 rfl rfl ?_
  obtain ⟨o2, o3, o4, o5, q1, V⟩ := V
  refine r_getf (ci := 4) (kf := 0) (T := TX3) rfl in_X3 (by decide) wF_X3_11 dX3_bothSaw_1 q1 rfl ?_
  refine r_iload_n 1 dX3_bothSaw_4 rfl rfl ?_
  refine r_iconst (v := (nI 4)) dX3_bothSaw_5 rfl ?_
  refine r_imulN dX3_bothSaw_6 ?_
  refine r_iload_n 2 dX3_bothSaw_7 rfl rfl ?_
  refine r_iaddN dX3_bothSaw_8 ?_
  obtain ⟨N7, f8, q6, V⟩ := V
  obtain ⟨c, cN, V⟩ := V
  refine r_iald dX3_bothSaw_9 q6 rfl c cN ?_
  show Blk g M_X3_bothSaw post 10 [(0, .ref x0), (1, .int (nI x1)), (2, .int (nI x2)), (3, .int (nI x3))] [.int (f8 ((x1 * 4) + x2))] h nx 0 0
  refine r_iconst (v := (-1)) dX3_bothSaw_10 rfl ?_
  refine r_icmp_eq (tgt := 32) dX3_bothSaw_11 (by decide) (fun c => ?_) (fun c => ?_)
  · have V := V.1 c
    refine r_iconst (v := (nI 0)) dX3_bothSaw_32 rfl ?_
    exact r_zret (ty := .boolean) dX3_bothSaw_33 rfl rfl (by decide) (by decide) V
  · have V := V.2 c
    refine r_aload_n 0 dX3_bothSaw_14 rfl rfl ?_
    refine r_getf (ci := 4) (kf := 0) (T := TX3) rfl in_X3 (by decide) wF_X3_11 dX3_bothSaw_15 q1 rfl ?_
    refine r_iload_n 1 dX3_bothSaw_18 rfl rfl ?_
    refine r_iconst (v := (nI 4)) dX3_bothSaw_19 rfl ?_
    refine r_imulN dX3_bothSaw_20 ?_
    refine r_iload_n 3 dX3_bothSaw_21 rfl rfl ?_
    refine r_iaddN dX3_bothSaw_22 ?_
    obtain ⟨c, cN, V⟩ := V
    refine r_iald dX3_bothSaw_23 q6 rfl c cN ?_
    show Blk g M_X3_bothSaw post 24 [(0, .ref x0), (1, .int (nI x1)), (2, .int (nI x2)), (3, .int (nI x3))] [.int (f8 ((x1 * 4) + x3))] h nx 0 0
    refine r_iconst (v := (-1)) dX3_bothSaw_24 rfl ?_
    refine r_icmp_eq (tgt := 32) dX3_bothSaw_25 (by decide) (fun c => ?_) (fun c => ?_)
    · have V := V.1 c
      refine r_iconst (v := (nI 0)) dX3_bothSaw_32 rfl ?_
      exact r_zret (ty := .boolean) dX3_bothSaw_33 rfl rfl (by decide) (by decide) V
    · have V := V.2 c
      refine r_iconst (v := (nI 1)) dX3_bothSaw_28 rfl ?_
      refine r_goto (tgt := 33) dX3_bothSaw_29 (by decide) ?_
      exact r_zret (ty := .boolean) dX3_bothSaw_33 rfl rfl (by decide) (by decide) V
set_option maxRecDepth 20000 in
theorem v_X3_seenByBoth_0 {g : xG} {post : xPost} {h : xHp} {nx : Nat} {x0 : Nat} {x1 : Nat} {x2 : Nat} (V : Blk g M_X3_seenByBoth post 5 [(0, .ref x0), (1, .int (nI x1)), (2, .int (nI x2)), (3, .int (nI 0)), (4, .int (nI 0))] [] h nx 0 0) : Blk g M_X3_seenByBoth post 0 [(0, .ref x0), (1, .int (nI x1)), (2, .int (nI x2))] [] h nx 0 0 := by
  refine r_iconst (v := (nI 0)) dX3_seenByBoth_0 rfl ?_
  refine r_istore_n (L' := [(3, .int (nI 0)), (0, .ref x0), (1, .int (nI x1)), (2, .int (nI x2))]) dX3_seenByBoth_1 rfl (by decide) rfl ?_
  refine r_iconst (v := (nI 0)) dX3_seenByBoth_2 rfl ?_
  refine r_istore (L' := [(4, .int (nI 0)), (3, .int (nI 0)), (0, .ref x0), (1, .int (nI x1)), (2, .int (nI x2))]) dX3_seenByBoth_3 (by decide) rfl ?_
  exact Blk.sub [2, 3, 4, 1, 0] rfl V
set_option maxRecDepth 20000 in
theorem v_X3_seenByBoth_5 {g : xG} {post : xPost} {h : xHp} {nx : Nat} {x0 : Nat} {x1 : Nat} {x2 : Nat} {x3 : Nat} {x4 : Nat} (V : ((x4 < 2 ^ 31 ∧ 120 < 2 ^ 31) ∧ ((120 ≤ x4 → (post (some (.int (nI x3))) h nx)) ∧ (x4 < 120 → (∃ (o4 : Nat) (o5 : Nat) (o6 : Nat) (o7 : Nat), h x0 = some (xo 4 [.ref o4, .ref o5, .ref o6, .ref o7]) ∧ Ct g M_X3_bothSaw [.ref x0, .int (nI x4), .int (nI x1), .int (nI x2)] h nx (fun r h1 n2 => ∃ v8 : Nat, r = some (.int (nI v8)) ∧ (v8 < 2 ^ 31 ∧ ((v8 = 0 → Blk g M_X3_seenByBoth post 5 [(0, .ref x0), (1, .int (nI x1)), (2, .int (nI x2)), (3, .int (nI x3)), (4, .int (nI (x4 + 1)))] [] h1 n2 0 0) ∧ (¬ v8 = 0 → Blk g M_X3_seenByBoth post 5 [(0, .ref x0), (1, .int (nI x1)), (2, .int (nI x2)), (3, .int (nI (x3 + 1))), (4, .int (nI (x4 + 1)))] [] h1 n2 0 0))))))))) : Blk g M_X3_seenByBoth post 5 [(0, .ref x0), (1, .int (nI x1)), (2, .int (nI x2)), (3, .int (nI x3)), (4, .int (nI x4))] [] h nx 0 0 := by
  refine r_iload 4 dX3_seenByBoth_5 rfl ?_
  refine r_bipush (v := (nI 120)) dX3_seenByBoth_7 rfl ?_
  obtain ⟨c, V⟩ := V
  refine r_icmp_geN (tgt := 32) dX3_seenByBoth_9 (by decide) c (fun c => ?_) (fun c => ?_)
  · have V := V.1 c
    refine r_iload_n 3 dX3_seenByBoth_32 rfl rfl ?_
    exact r_iret dX3_seenByBoth_33 rfl (by decide) (by decide) V
  · have V := V.2 c
    refine r_aload_n 0 dX3_seenByBoth_12 rfl rfl ?_
    refine r_iload 4 dX3_seenByBoth_13 rfl ?_
    refine r_iload_n 1 dX3_seenByBoth_15 rfl rfl ?_
    refine r_iload_n 2 dX3_seenByBoth_16 rfl rfl ?_
    obtain ⟨o4, o5, o6, o7, q3, V⟩ := V
    refine r_callV (M2 := M_X3_bothSaw) (ci := 4) (n := 3) (As := [.int (nI x4), .int (nI x1), .int (nI x2)]) rfl (wl5 wM_X3_48 wi_X3_bothSaw wS_X3_bothSaw wI_StateShares_Marks wc_X3_bothSaw) (by decide +kernel) (by decide) rfl rfl (Nat.le_of_ble_eq_true rfl) dX3_seenByBoth_17 q3 (by decide) (by decide) (Ct.imp V (fun r h1 n2 V => ?_))
    obtain ⟨v8, rfl, V⟩ := V
    show Blk g M_X3_seenByBoth post 20 [(0, .ref x0), (1, .int (nI x1)), (2, .int (nI x2)), (3, .int (nI x3)), (4, .int (nI x4))] [.int (nI v8)] h1 n2 0 0
    obtain ⟨c, V⟩ := V
    refine r_if_eqN (tgt := 26) dX3_seenByBoth_20 (by decide) c (fun c => ?_) (fun c => ?_)
    · have V := V.1 c
      refine r_iincN 4 (b := 1) (L' := [(4, .int (nI (x4 + 1))), (0, .ref x0), (1, .int (nI x1)), (2, .int (nI x2)), (3, .int (nI x3))]) dX3_seenByBoth_26 rfl rfl (by decide) rfl ?_
      refine r_goto (tgt := 5) dX3_seenByBoth_29 (by decide) ?_
      exact Blk.sub [1, 2, 3, 4, 0] rfl V
    · have V := V.2 c
      refine r_iincN 3 (b := 1) (L' := [(3, .int (nI (x3 + 1))), (0, .ref x0), (1, .int (nI x1)), (2, .int (nI x2)), (4, .int (nI x4))]) dX3_seenByBoth_23 rfl rfl (by decide) rfl ?_
      refine r_iincN 4 (b := 1) (L' := [(4, .int (nI (x4 + 1))), (3, .int (nI (x3 + 1))), (0, .ref x0), (1, .int (nI x1)), (2, .int (nI x2))]) dX3_seenByBoth_26 rfl rfl (by decide) rfl ?_
      refine r_goto (tgt := 5) dX3_seenByBoth_29 (by decide) ?_
      exact Blk.sub [2, 3, 4, 1, 0] rfl V
set_option maxRecDepth 20000 in
theorem v_X3_seenAmongBoth_0 {g : xG} {post : xPost} {h : xHp} {nx : Nat} {x0 : Nat} {x1 : Nat} {x2 : Nat} {x3 : Nat} (V : Blk g M_X3_seenAmongBoth post 6 [(0, .ref x0), (1, .int (nI x1)), (2, .int (nI x2)), (3, .int (nI x3)), (4, .int (nI 0)), (5, .int (nI 0))] [] h nx 0 0) : Blk g M_X3_seenAmongBoth post 0 [(0, .ref x0), (1, .int (nI x1)), (2, .int (nI x2)), (3, .int (nI x3))] [] h nx 0 0 := by
  refine r_iconst (v := (nI 0)) dX3_seenAmongBoth_0 rfl ?_
  refine r_istore (L' := [(4, .int (nI 0)), (0, .ref x0), (1, .int (nI x1)), (2, .int (nI x2)), (3, .int (nI x3))]) dX3_seenAmongBoth_1 (by decide) rfl ?_
  refine r_iconst (v := (nI 0)) dX3_seenAmongBoth_3 rfl ?_
  refine r_istore (L' := [(5, .int (nI 0)), (4, .int (nI 0)), (0, .ref x0), (1, .int (nI x1)), (2, .int (nI x2)), (3, .int (nI x3))]) dX3_seenAmongBoth_4 (by decide) rfl ?_
  exact Blk.sub [2, 3, 4, 5, 1, 0] rfl V
set_option maxRecDepth 20000 in
theorem v_X3_seenAmongBoth_6 {g : xG} {post : xPost} {h : xHp} {nx : Nat} {x0 : Nat} {x1 : Nat} {x2 : Nat} {x3 : Nat} {x4 : Nat} {x5 : Nat} (V : ((x5 < 2 ^ 31 ∧ 120 < 2 ^ 31) ∧ ((120 ≤ x5 → (post (some (.int (nI x4))) h nx)) ∧ (x5 < 120 → (∃ (o4 : Nat) (o5 : Nat) (o6 : Nat) (o7 : Nat), h x0 = some (xo 4 [.ref o4, .ref o5, .ref o6, .ref o7]) ∧ Ct g M_X3_bothSaw [.ref x0, .int (nI x5), .int (nI x1), .int (nI x2)] h nx (fun r h1 n2 => ∃ v8 : Nat, r = some (.int (nI v8)) ∧ (v8 < 2 ^ 31 ∧ ((v8 = 0 → Blk g M_X3_seenAmongBoth post 6 [(0, .ref x0), (1, .int (nI x1)), (2, .int (nI x2)), (3, .int (nI x3)), (4, .int (nI x4)), (5, .int (nI (x5 + 1)))] [] h1 n2 0 0) ∧ (¬ v8 = 0 → (∃ (o10 : Nat) (o11 : Nat) (o12 : Nat) (o13 : Nat), h1 x0 = some (xo 4 [.ref o10, .ref o11, .ref o12, .ref o13]) ∧ (∃ (N15 : Nat) (f16 : Nat → Int32), h1 o10 = some (xia N15 f16) ∧ ((x5 * 4) + x1) < N15 ∧ N15 < 2 ^ 31 ∧ ((¬ (f16 ((x5 * 4) + x1)) = (nI x3) → Blk g M_X3_seenAmongBoth post 6 [(0, .ref x0), (1, .int (nI x1)), (2, .int (nI x2)), (3, .int (nI x3)), (4, .int (nI x4)), (5, .int (nI (x5 + 1)))] [] h1 n2 0 0) ∧ ((f16 ((x5 * 4) + x1)) = (nI x3) → Blk g M_X3_seenAmongBoth post 6 [(0, .ref x0), (1, .int (nI x1)), (2, .int (nI x2)), (3, .int (nI x3)), (4, .int (nI (x4 + 1))), (5, .int (nI (x5 + 1)))] [] h1 n2 0 0))))))))))))) : Blk g M_X3_seenAmongBoth post 6 [(0, .ref x0), (1, .int (nI x1)), (2, .int (nI x2)), (3, .int (nI x3)), (4, .int (nI x4)), (5, .int (nI x5))] [] h nx 0 0 := by
  refine r_iload 5 dX3_seenAmongBoth_6 rfl ?_
  refine r_bipush (v := (nI 120)) dX3_seenAmongBoth_8 rfl ?_
  obtain ⟨c, V⟩ := V
  refine r_icmp_geN (tgt := 48) dX3_seenAmongBoth_10 (by decide) c (fun c => ?_) (fun c => ?_)
  · have V := V.1 c
    refine r_iload 4 dX3_seenAmongBoth_48 rfl ?_
    exact r_iret dX3_seenAmongBoth_50 rfl (by decide) (by decide) V
  · have V := V.2 c
    refine r_aload_n 0 dX3_seenAmongBoth_13 rfl rfl ?_
    refine r_iload 5 dX3_seenAmongBoth_14 rfl ?_
    refine r_iload_n 1 dX3_seenAmongBoth_16 rfl rfl ?_
    refine r_iload_n 2 dX3_seenAmongBoth_17 rfl rfl ?_
    obtain ⟨o4, o5, o6, o7, q3, V⟩ := V
    refine r_callV (M2 := M_X3_bothSaw) (ci := 4) (n := 3) (As := [.int (nI x5), .int (nI x1), .int (nI x2)]) rfl (wl5 wM_X3_48 wi_X3_bothSaw wS_X3_bothSaw wI_StateShares_Marks wc_X3_bothSaw) (by decide +kernel) (by decide) rfl rfl (Nat.le_of_ble_eq_true rfl) dX3_seenAmongBoth_18 q3 (by decide) (by decide) (Ct.imp V (fun r h1 n2 V => ?_))
    obtain ⟨v8, rfl, V⟩ := V
    show Blk g M_X3_seenAmongBoth post 21 [(0, .ref x0), (1, .int (nI x1)), (2, .int (nI x2)), (3, .int (nI x3)), (4, .int (nI x4)), (5, .int (nI x5))] [.int (nI v8)] h1 n2 0 0
    obtain ⟨c, V⟩ := V
    refine r_if_eqN (tgt := 42) dX3_seenAmongBoth_21 (by decide) c (fun c => ?_) (fun c => ?_)
    · have V := V.1 c
      refine r_iincN 5 (b := 1) (L' := [(5, .int (nI (x5 + 1))), (0, .ref x0), (1, .int (nI x1)), (2, .int (nI x2)), (3, .int (nI x3)), (4, .int (nI x4))]) dX3_seenAmongBoth_42 rfl rfl (by decide) rfl ?_
      refine r_goto (tgt := 6) dX3_seenAmongBoth_45 (by decide) ?_
      exact Blk.sub [1, 2, 3, 4, 5, 0] rfl V
    · have V := V.2 c
      refine r_aload_n 0 dX3_seenAmongBoth_24 rfl rfl ?_
      obtain ⟨o10, o11, o12, o13, q9, V⟩ := V
      refine r_getf (ci := 4) (kf := 0) (T := TX3) rfl in_X3 (by decide) wF_X3_11 dX3_seenAmongBoth_25 q9 rfl ?_
      refine r_iload 5 dX3_seenAmongBoth_28 rfl ?_
      refine r_iconst (v := (nI 4)) dX3_seenAmongBoth_30 rfl ?_
      refine r_imulN dX3_seenAmongBoth_31 ?_
      refine r_iload_n 1 dX3_seenAmongBoth_32 rfl rfl ?_
      refine r_iaddN dX3_seenAmongBoth_33 ?_
      obtain ⟨N15, f16, q14, V⟩ := V
      obtain ⟨c, cN, V⟩ := V
      refine r_iald dX3_seenAmongBoth_34 q14 rfl c cN ?_
      show Blk g M_X3_seenAmongBoth post 35 [(0, .ref x0), (1, .int (nI x1)), (2, .int (nI x2)), (3, .int (nI x3)), (4, .int (nI x4)), (5, .int (nI x5))] [.int (f16 ((x5 * 4) + x1))] h1 n2 0 0
      refine r_iload_n 3 dX3_seenAmongBoth_35 rfl rfl ?_
      refine r_icmp_ne (tgt := 42) dX3_seenAmongBoth_36 (by decide) (fun c => ?_) (fun c => ?_)
      · have V := V.1 c
        refine r_iincN 5 (b := 1) (L' := [(5, .int (nI (x5 + 1))), (0, .ref x0), (1, .int (nI x1)), (2, .int (nI x2)), (3, .int (nI x3)), (4, .int (nI x4))]) dX3_seenAmongBoth_42 rfl rfl (by decide) rfl ?_
        refine r_goto (tgt := 6) dX3_seenAmongBoth_45 (by decide) ?_
        exact Blk.sub [1, 2, 3, 4, 5, 0] rfl V
      · have V := V.2 c
        refine r_iincN 4 (b := 1) (L' := [(4, .int (nI (x4 + 1))), (0, .ref x0), (1, .int (nI x1)), (2, .int (nI x2)), (3, .int (nI x3)), (5, .int (nI x5))]) dX3_seenAmongBoth_39 rfl rfl (by decide) rfl ?_
        refine r_iincN 5 (b := 1) (L' := [(5, .int (nI (x5 + 1))), (4, .int (nI (x4 + 1))), (0, .ref x0), (1, .int (nI x1)), (2, .int (nI x2)), (3, .int (nI x3))]) dX3_seenAmongBoth_42 rfl rfl (by decide) rfl ?_
        refine r_goto (tgt := 6) dX3_seenAmongBoth_45 (by decide) ?_
        exact Blk.sub [2, 3, 4, 5, 1, 0] rfl V
set_option maxRecDepth 20000 in
theorem v_X3_sameByBoth_0 {g : xG} {post : xPost} {h : xHp} {nx : Nat} {x0 : Nat} {x1 : Nat} {x2 : Nat} {x3 : Nat} (V : Blk g M_X3_sameByBoth post 6 [(0, .ref x0), (1, .int (nI x1)), (2, .int (nI x2)), (3, .int (nI x3)), (4, .int (nI 0)), (5, .int (nI 0))] [] h nx 0 0) : Blk g M_X3_sameByBoth post 0 [(0, .ref x0), (1, .int (nI x1)), (2, .int (nI x2)), (3, .int (nI x3))] [] h nx 0 0 := by
  refine r_iconst (v := (nI 0)) dX3_sameByBoth_0 rfl ?_
  refine r_istore (L' := [(4, .int (nI 0)), (0, .ref x0), (1, .int (nI x1)), (2, .int (nI x2)), (3, .int (nI x3))]) dX3_sameByBoth_1 (by decide) rfl ?_
  refine r_iconst (v := (nI 0)) dX3_sameByBoth_3 rfl ?_
  refine r_istore (L' := [(5, .int (nI 0)), (4, .int (nI 0)), (0, .ref x0), (1, .int (nI x1)), (2, .int (nI x2)), (3, .int (nI x3))]) dX3_sameByBoth_4 (by decide) rfl ?_
  exact Blk.sub [2, 3, 4, 5, 1, 0] rfl V
set_option maxRecDepth 20000 in
theorem v_X3_sameByBoth_6 {g : xG} {post : xPost} {h : xHp} {nx : Nat} {x0 : Nat} {x1 : Nat} {x2 : Nat} {x3 : Nat} {x4 : Nat} {x5 : Nat} (V : ((x5 < 2 ^ 31 ∧ 120 < 2 ^ 31) ∧ ((120 ≤ x5 → (post (some (.int (nI x4))) h nx)) ∧ (x5 < 120 → (∃ (o2 : Nat) (o3 : Nat) (o4 : Nat) (o5 : Nat), h x0 = some (xo 4 [.ref o2, .ref o3, .ref o4, .ref o5]) ∧ (∃ (N7 : Nat) (f8 : Nat → Int32), h o2 = some (xia N7 f8) ∧ ((x5 * 4) + x1) < N7 ∧ N7 < 2 ^ 31 ∧ ((¬ (f8 ((x5 * 4) + x1)) = (nI x3) → Blk g M_X3_sameByBoth post 6 [(0, .ref x0), (1, .int (nI x1)), (2, .int (nI x2)), (3, .int (nI x3)), (4, .int (nI x4)), (5, .int (nI (x5 + 1)))] [] h nx 0 0) ∧ ((f8 ((x5 * 4) + x1)) = (nI x3) → (((x5 * 4) + x2) < N7 ∧ N7 < 2 ^ 31 ∧ ((¬ (f8 ((x5 * 4) + x2)) = (nI x3) → Blk g M_X3_sameByBoth post 6 [(0, .ref x0), (1, .int (nI x1)), (2, .int (nI x2)), (3, .int (nI x3)), (4, .int (nI x4)), (5, .int (nI (x5 + 1)))] [] h nx 0 0) ∧ ((f8 ((x5 * 4) + x2)) = (nI x3) → Blk g M_X3_sameByBoth post 6 [(0, .ref x0), (1, .int (nI x1)), (2, .int (nI x2)), (3, .int (nI x3)), (4, .int (nI (x4 + 1))), (5, .int (nI (x5 + 1)))] [] h nx 0 0))))))))))) : Blk g M_X3_sameByBoth post 6 [(0, .ref x0), (1, .int (nI x1)), (2, .int (nI x2)), (3, .int (nI x3)), (4, .int (nI x4)), (5, .int (nI x5))] [] h nx 0 0 := by
  refine r_iload 5 dX3_sameByBoth_6 rfl ?_
  refine r_bipush (v := (nI 120)) dX3_sameByBoth_8 rfl ?_
  obtain ⟨c, V⟩ := V
  refine r_icmp_geN (tgt := 52) dX3_sameByBoth_10 (by decide) c (fun c => ?_) (fun c => ?_)
  · have V := V.1 c
    refine r_iload 4 dX3_sameByBoth_52 rfl ?_
    exact r_iret dX3_sameByBoth_54 rfl (by decide) (by decide) V
  · have V := V.2 c
    refine r_aload_n 0 dX3_sameByBoth_13 rfl rfl ?_
    obtain ⟨o2, o3, o4, o5, q1, V⟩ := V
    refine r_getf (ci := 4) (kf := 0) (T := TX3) rfl in_X3 (by decide) wF_X3_11 dX3_sameByBoth_14 q1 rfl ?_
    refine r_iload 5 dX3_sameByBoth_17 rfl ?_
    refine r_iconst (v := (nI 4)) dX3_sameByBoth_19 rfl ?_
    refine r_imulN dX3_sameByBoth_20 ?_
    refine r_iload_n 1 dX3_sameByBoth_21 rfl rfl ?_
    refine r_iaddN dX3_sameByBoth_22 ?_
    obtain ⟨N7, f8, q6, V⟩ := V
    obtain ⟨c, cN, V⟩ := V
    refine r_iald dX3_sameByBoth_23 q6 rfl c cN ?_
    show Blk g M_X3_sameByBoth post 24 [(0, .ref x0), (1, .int (nI x1)), (2, .int (nI x2)), (3, .int (nI x3)), (4, .int (nI x4)), (5, .int (nI x5))] [.int (f8 ((x5 * 4) + x1))] h nx 0 0
    refine r_iload_n 3 dX3_sameByBoth_24 rfl rfl ?_
    refine r_icmp_ne (tgt := 46) dX3_sameByBoth_25 (by decide) (fun c => ?_) (fun c => ?_)
    · have V := V.1 c
      refine r_iincN 5 (b := 1) (L' := [(5, .int (nI (x5 + 1))), (0, .ref x0), (1, .int (nI x1)), (2, .int (nI x2)), (3, .int (nI x3)), (4, .int (nI x4))]) dX3_sameByBoth_46 rfl rfl (by decide) rfl ?_
      refine r_goto (tgt := 6) dX3_sameByBoth_49 (by decide) ?_
      exact Blk.sub [1, 2, 3, 4, 5, 0] rfl V
    · have V := V.2 c
      refine r_aload_n 0 dX3_sameByBoth_28 rfl rfl ?_
      refine r_getf (ci := 4) (kf := 0) (T := TX3) rfl in_X3 (by decide) wF_X3_11 dX3_sameByBoth_29 q1 rfl ?_
      refine r_iload 5 dX3_sameByBoth_32 rfl ?_
      refine r_iconst (v := (nI 4)) dX3_sameByBoth_34 rfl ?_
      refine r_imulN dX3_sameByBoth_35 ?_
      refine r_iload_n 2 dX3_sameByBoth_36 rfl rfl ?_
      refine r_iaddN dX3_sameByBoth_37 ?_
      obtain ⟨c, cN, V⟩ := V
      refine r_iald dX3_sameByBoth_38 q6 rfl c cN ?_
      show Blk g M_X3_sameByBoth post 39 [(0, .ref x0), (1, .int (nI x1)), (2, .int (nI x2)), (3, .int (nI x3)), (4, .int (nI x4)), (5, .int (nI x5))] [.int (f8 ((x5 * 4) + x2))] h nx 0 0
      refine r_iload_n 3 dX3_sameByBoth_39 rfl rfl ?_
      refine r_icmp_ne (tgt := 46) dX3_sameByBoth_40 (by decide) (fun c => ?_) (fun c => ?_)
      · have V := V.1 c
        refine r_iincN 5 (b := 1) (L' := [(5, .int (nI (x5 + 1))), (0, .ref x0), (1, .int (nI x1)), (2, .int (nI x2)), (3, .int (nI x3)), (4, .int (nI x4))]) dX3_sameByBoth_46 rfl rfl (by decide) rfl ?_
        refine r_goto (tgt := 6) dX3_sameByBoth_49 (by decide) ?_
        exact Blk.sub [1, 2, 3, 4, 5, 0] rfl V
      · have V := V.2 c
        refine r_iincN 4 (b := 1) (L' := [(4, .int (nI (x4 + 1))), (0, .ref x0), (1, .int (nI x1)), (2, .int (nI x2)), (3, .int (nI x3)), (5, .int (nI x5))]) dX3_sameByBoth_43 rfl rfl (by decide) rfl ?_
        refine r_iincN 5 (b := 1) (L' := [(5, .int (nI (x5 + 1))), (4, .int (nI (x4 + 1))), (0, .ref x0), (1, .int (nI x1)), (2, .int (nI x2)), (3, .int (nI x3))]) dX3_sameByBoth_46 rfl rfl (by decide) rfl ?_
        refine r_goto (tgt := 6) dX3_sameByBoth_49 (by decide) ?_
        exact Blk.sub [2, 3, 4, 5, 1, 0] rfl V
