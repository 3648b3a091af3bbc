set_option maxRecDepth 20000 in
theorem wF_X10_91 : Cond.fieldLink "StateSharesModel" 91 "StateSharesModel" "code" "I" ∈ lw_gd := lw_in 1031 (by decide +kernel) rfl
set_option maxRecDepth 20000 in
theorem wF_X10_75 : Cond.fieldLink "StateSharesModel" 75 "StateSharesModel" "states" "I" ∈ lw_gd := lw_in 1032 (by decide +kernel) rfl
set_option maxRecDepth 20000 in
theorem wM_X10_94 : Cond.methodLink "StateSharesModel" 94 (yX10_in) ∈ lw_gd := lw_in 1146 (by decide +kernel) rfl
set_option maxRecDepth 20000 in
theorem ws_X10_in : Cond.static (yX10_in) ∈ lw_gd := lw_in 1147 (by decide +kernel) rfl
set_option maxRecDepth 20000 in
theorem wI_StateSharesModel : Cond.initialized "StateSharesModel" ∈ lw_gd := lw_in 12 (by decide +kernel) rfl
set_option maxRecDepth 20000 in
theorem wc_X10_in : Cond.code yX10_in cX10_in 6 (some .boolean) ∈ lw_gd := lw_in 1148 (by decide +kernel) rfl
set_option maxRecDepth 20000 in
theorem wL_X10_98 : Cond.constantLong "StateSharesModel" 98 (9) ∈ lw_gd := lw_in 1145 (by decide +kernel) rfl
set_option maxRecDepth 20000 in
theorem wL_X10_100 : Cond.constantLong "StateSharesModel" 100 (11) ∈ lw_gd := lw_in 1149 (by decide +kernel) rfl
set_option maxRecDepth 20000 in
theorem wM_X10_102 : Cond.methodLink "StateSharesModel" 102 (yX10_isPlace) ∈ lw_gd := lw_in 1141 (by decide +kernel) rfl
set_option maxRecDepth 20000 in
theorem wi_X10_isPlace : Cond.instanceMethod (yX10_isPlace) ∈ lw_gd := lw_in 1143 (by decide +kernel) rfl
set_option maxRecDepth 20000 in
theorem wS_X10_isPlace : Cond.selects "StateSharesModel" (yX10_isPlace) (yX10_isPlace) ∈ lw_gd := lw_inS (q := ((yX10_isPlace), 33)) 36 (by decide +kernel)
set_option maxRecDepth 20000 in
theorem wc_X10_isPlace : Cond.code yX10_isPlace cX10_isPlace 3 (some .boolean) ∈ lw_gd := lw_in 1144 (by decide +kernel) rfl
set_option maxRecDepth 20000 in
theorem wL_X10_106 : Cond.constantLong "StateSharesModel" 106 (3) ∈ lw_gd := lw_in 1150 (by decide +kernel) rfl
set_option maxRecDepth 20000 in
theorem wM_X10_108 : Cond.methodLink "StateSharesModel" 108 (yX10_isState) ∈ lw_gd := lw_in 1151 (by decide +kernel) rfl
set_option maxRecDepth 20000 in
theorem wi_X10_isState : Cond.instanceMethod (yX10_isState) ∈ lw_gd := lw_in 1153 (by decide +kernel) rfl
set_option maxRecDepth 20000 in
theorem wS_X10_isState : Cond.selects "StateSharesModel" (yX10_isState) (yX10_isState) ∈ lw_gd := lw_inS (q := ((yX10_isState), 33)) 37 (by decide +kernel)
set_option maxRecDepth 20000 in
theorem wc_X10_isState : Cond.code yX10_isState cX10_isState 2 (some .boolean) ∈ lw_gd := lw_in 1154 (by decide +kernel) rfl
set_option maxRecDepth 20000 in
theorem wF_X10_7 : Cond.fieldLink "StateSharesModel" 7 "StateSharesModel" "marks" "[I" ∈ lw_gd := lw_in 1033 (by decide +kernel) rfl
set_option maxRecDepth 20000 in
theorem wM_X10_112 : Cond.methodLink "StateSharesModel" 112 (yX10_spot) ∈ lw_gd := lw_in 1155 (by decide +kernel) rfl
set_option maxRecDepth 20000 in
theorem ws_X10_spot : Cond.static (yX10_spot) ∈ lw_gd := lw_in 1156 (by decide +kernel) rfl
set_option maxRecDepth 20000 in
theorem wc_X10_spot : Cond.code yX10_spot cX10_spot 3 (some .int) ∈ lw_gd := lw_in 1157 (by decide +kernel) rfl
set_option maxRecDepth 20000 in
theorem wF_X10_116 : Cond.fieldLink "StateSharesModel" 116 "StateSharesModel" "fresh" "Z" ∈ lw_gd := lw_in 1062 (by decide +kernel) rfl
set_option maxRecDepth 20000 in
theorem wF_X10_13 : Cond.fieldLink "StateSharesModel" 13 "StateSharesModel" "kinds" "[I" ∈ lw_gd := lw_in 1034 (by decide +kernel) rfl
set_option maxRecDepth 20000 in
theorem wL_X10_120 : Cond.constantLong "StateSharesModel" 120 (32) ∈ lw_gd := lw_in 1166 (by decide +kernel) rfl
set_option maxRecDepth 20000 in
theorem wL_X10_122 : Cond.constantLong "StateSharesModel" 122 (126) ∈ lw_gd := lw_in 1167 (by decide +kernel) rfl
set_option maxRecDepth 20000 in
theorem wF_X10_124 : Cond.fieldLink "StateSharesModel" 124 "StateSharesModel" "size" "I" ∈ lw_gd := lw_in 1036 (by decide +kernel) rfl
set_option maxRecDepth 20000 in
theorem wF_X10_16 : Cond.fieldLink "StateSharesModel" 16 "StateSharesModel" "text" "[I" ∈ lw_gd := lw_in 1035 (by decide +kernel) rfl
set_option maxRecDepth 20000 in
theorem wF_X10_127 : Cond.fieldLink "StateSharesModel" 127 "StateSharesModel" "words" "I" ∈ lw_gd := lw_in 1037 (by decide +kernel) rfl
set_option maxRecDepth 20000 in
theorem wF_X10_19 : Cond.fieldLink "StateSharesModel" 19 "StateSharesModel" "wordFrom" "[I" ∈ lw_gd := lw_in 1038 (by decide +kernel) rfl
set_option maxRecDepth 20000 in
theorem wF_X10_22 : Cond.fieldLink "StateSharesModel" 22 "StateSharesModel" "wordTo" "[I" ∈ lw_gd := lw_in 1039 (by decide +kernel) rfl
set_option maxRecDepth 20000 in
theorem wM_X10_130 : Cond.methodLink "StateSharesModel" 130 (yX10_isDigit) ∈ lw_gd := lw_in 1176 (by decide +kernel) rfl
set_option maxRecDepth 20000 in
theorem ws_X10_isDigit : Cond.static (yX10_isDigit) ∈ lw_gd := lw_in 1177 (by decide +kernel) rfl
set_option maxRecDepth 20000 in
theorem wc_X10_isDigit : Cond.code yX10_isDigit cX10_isDigit 1 (some .boolean) ∈ lw_gd := lw_in 1178 (by decide +kernel) rfl
set_option maxRecDepth 20000 in
theorem wM_X10_133 : Cond.methodLink "StateSharesModel" 133 (yX10_isLetter) ∈ lw_gd := lw_in 1179 (by decide +kernel) rfl
set_option maxRecDepth 20000 in
theorem ws_X10_isLetter : Cond.static (yX10_isLetter) ∈ lw_gd := lw_in 1180 (by decide +kernel) rfl
set_option maxRecDepth 20000 in
theorem wc_X10_isLetter : Cond.code yX10_isLetter cX10_isLetter 1 (some .boolean) ∈ lw_gd := lw_in 1181 (by decide +kernel) rfl
set_option maxRecDepth 20000 in
theorem wF_X10_136 : Cond.fieldLink "StateSharesModel" 136 "StateSharesModel" "at" "I" ∈ lw_gd := lw_in 1040 (by decide +kernel) rfl
set_option maxRecDepth 20000 in
theorem wF_X10_139 : Cond.fieldLink "StateSharesModel" 139 "StateSharesModel" "wrong" "Z" ∈ lw_gd := lw_in 1041 (by decide +kernel) rfl
set_option maxRecDepth 20000 in
theorem wM_X10_142 : Cond.methodLink "StateSharesModel" 142 (yX10_isNumber) ∈ lw_gd := lw_in 1206 (by decide +kernel) rfl
set_option maxRecDepth 20000 in
theorem wi_X10_isNumber : Cond.instanceMethod (yX10_isNumber) ∈ lw_gd := lw_in 1208 (by decide +kernel) rfl
set_option maxRecDepth 20000 in
theorem wS_X10_isNumber : Cond.selects "StateSharesModel" (yX10_isNumber) (yX10_isNumber) ∈ lw_gd := lw_inS (q := ((yX10_isNumber), 33)) 45 (by decide +kernel)
set_option maxRecDepth 20000 in
theorem wc_X10_isNumber : Cond.code yX10_isNumber cX10_isNumber 1 (some .boolean) ∈ lw_gd := lw_in 1209 (by decide +kernel) rfl
set_option maxRecDepth 20000 in
theorem wM_X10_146 : Cond.methodLink "StateSharesModel" 146 (yX10_is) ∈ lw_gd := lw_in 1194 (by decide +kernel) rfl
set_option maxRecDepth 20000 in
theorem wi_X10_is : Cond.instanceMethod (yX10_is) ∈ lw_gd := lw_in 1196 (by decide +kernel) rfl
set_option maxRecDepth 20000 in
theorem wS_X10_is : Cond.selects "StateSharesModel" (yX10_is) (yX10_is) ∈ lw_gd := lw_inS (q := ((yX10_is), 33)) 42 (by decide +kernel)
set_option maxRecDepth 20000 in
theorem wc_X10_is : Cond.code yX10_is cX10_is 7 (some .boolean) ∈ lw_gd := lw_in 1197 (by decide +kernel) rfl
set_option maxRecDepth 20000 in
theorem wM_X10_150 : Cond.methodLink "StateSharesModel" 150 (yX10_sortHere) ∈ lw_gd := lw_in 1190 (by decide +kernel) rfl
set_option maxRecDepth 20000 in
theorem wi_X10_sortHere : Cond.instanceMethod (yX10_sortHere) ∈ lw_gd := lw_in 1192 (by decide +kernel) rfl
set_option maxRecDepth 20000 in
theorem wS_X10_sortHere : Cond.selects "StateSharesModel" (yX10_sortHere) (yX10_sortHere) ∈ lw_gd := lw_inS (q := ((yX10_sortHere), 33)) 41 (by decide +kernel)
set_option maxRecDepth 20000 in
theorem wc_X10_sortHere : Cond.code yX10_sortHere cX10_sortHere 1 (some .int) ∈ lw_gd := lw_in 1193 (by decide +kernel) rfl
set_option maxRecDepth 20000 in
theorem wF_X10_28 : Cond.fieldLink "StateSharesModel" 28 "StateSharesModel" "draft" "[I" ∈ lw_gd := lw_in 1045 (by decide +kernel) rfl
set_option maxRecDepth 20000 in
theorem wM_X10_154 : Cond.methodLink "StateSharesModel" 154 (yX10_number) ∈ lw_gd := lw_in 1202 (by decide +kernel) rfl
set_option maxRecDepth 20000 in
theorem wi_X10_number : Cond.instanceMethod (yX10_number) ∈ lw_gd := lw_in 1204 (by decide +kernel) rfl
set_option maxRecDepth 20000 in
theorem wS_X10_number : Cond.selects "StateSharesModel" (yX10_number) (yX10_number) ∈ lw_gd := lw_inS (q := ((yX10_number), 33)) 44 (by decide +kernel)
set_option maxRecDepth 20000 in
theorem wc_X10_number : Cond.code yX10_number cX10_number 3 (some .int) ∈ lw_gd := lw_in 1205 (by decide +kernel) rfl
set_option maxRecDepth 20000 in
theorem wM_X10_157 : Cond.methodLink "StateSharesModel" 157 (yX10_isSignHere) ∈ lw_gd := lw_in 1198 (by decide +kernel) rfl
set_option maxRecDepth 20000 in
theorem wi_X10_isSignHere : Cond.instanceMethod (yX10_isSignHere) ∈ lw_gd := lw_in 1200 (by decide +kernel) rfl
set_option maxRecDepth 20000 in
theorem wS_X10_isSignHere : Cond.selects "StateSharesModel" (yX10_isSignHere) (yX10_isSignHere) ∈ lw_gd := lw_inS (q := ((yX10_isSignHere), 33)) 43 (by decide +kernel)
set_option maxRecDepth 20000 in
theorem wc_X10_isSignHere : Cond.code yX10_isSignHere cX10_isSignHere 1 (some .boolean) ∈ lw_gd := lw_in 1201 (by decide +kernel) rfl
set_option maxRecDepth 20000 in
theorem wF_X10_160 : Cond.fieldLink "StateSharesModel" 160 "StateSharesModel" "drafts" "I" ∈ lw_gd := lw_in 1044 (by decide +kernel) rfl
set_option maxRecDepth 20000 in
theorem wM_X10_163 : Cond.methodLink "StateSharesModel" 163 (yX10_hasCondition) ∈ lw_gd := lw_in 1186 (by decide +kernel) rfl
set_option maxRecDepth 20000 in
theorem wi_X10_hasCondition : Cond.instanceMethod (yX10_hasCondition) ∈ lw_gd := lw_in 1188 (by decide +kernel) rfl
set_option maxRecDepth 20000 in
theorem wS_X10_hasCondition : Cond.selects "StateSharesModel" (yX10_hasCondition) (yX10_hasCondition) ∈ lw_gd := lw_inS (q := ((yX10_hasCondition), 33)) 40 (by decide +kernel)
set_option maxRecDepth 20000 in
theorem wc_X10_hasCondition : Cond.code yX10_hasCondition cX10_hasCondition 3 (some .boolean) ∈ lw_gd := lw_in 1189 (by decide +kernel) rfl
set_option maxRecDepth 20000 in
theorem wM_X10_166 : Cond.methodLink "StateSharesModel" 166 (yX10_value) ∈ lw_gd := lw_in 1210 (by decide +kernel) rfl
set_option maxRecDepth 20000 in
theorem wi_X10_value : Cond.instanceMethod (yX10_value) ∈ lw_gd := lw_in 1212 (by decide +kernel) rfl
set_option maxRecDepth 20000 in
theorem wS_X10_value : Cond.selects "StateSharesModel" (yX10_value) (yX10_value) ∈ lw_gd := lw_inS (q := ((yX10_value), 33)) 46 (by decide +kernel)
set_option maxRecDepth 20000 in
theorem wc_X10_value : Cond.code yX10_value cX10_value 5 none ∈ lw_gd := lw_in 1213 (by decide +kernel) rfl
set_option maxRecDepth 20000 in
theorem wM_X10_170 : Cond.methodLink "StateSharesModel" 170 (yX10_split) ∈ lw_gd := lw_in 1172 (by decide +kernel) rfl
set_option maxRecDepth 20000 in
theorem wi_X10_split : Cond.instanceMethod (yX10_split) ∈ lw_gd := lw_in 1174 (by decide +kernel) rfl
set_option maxRecDepth 20000 in
theorem wS_X10_split : Cond.selects "StateSharesModel" (yX10_split) (yX10_split) ∈ lw_gd := lw_inS (q := ((yX10_split), 33)) 38 (by decide +kernel)
set_option maxRecDepth 20000 in
theorem wc_X10_split : Cond.code yX10_split cX10_split 3 none ∈ lw_gd := lw_in 1175 (by decide +kernel) rfl
set_option maxRecDepth 20000 in
theorem wF_X10_79 : Cond.fieldLink "StateSharesModel" 79 "StateSharesModel" "rules" "I" ∈ lw_gd := lw_in 1042 (by decide +kernel) rfl
set_option maxRecDepth 20000 in
theorem wM_X10_173 : Cond.methodLink "StateSharesModel" 173 (yX10_readRule) ∈ lw_gd := lw_in 1182 (by decide +kernel) rfl
set_option maxRecDepth 20000 in
theorem wi_X10_readRule : Cond.instanceMethod (yX10_readRule) ∈ lw_gd := lw_in 1184 (by decide +kernel) rfl
set_option maxRecDepth 20000 in
theorem wS_X10_readRule : Cond.selects "StateSharesModel" (yX10_readRule) (yX10_readRule) ∈ lw_gd := lw_inS (q := ((yX10_readRule), 33)) 39 (by decide +kernel)
set_option maxRecDepth 20000 in
theorem wc_X10_readRule : Cond.code yX10_readRule cX10_readRule 2 none ∈ lw_gd := lw_in 1185 (by decide +kernel) rfl
set_option maxRecDepth 20000 in
theorem wF_X10_25 : Cond.fieldLink "StateSharesModel" 25 "StateSharesModel" "rule" "[I" ∈ lw_gd := lw_in 1043 (by decide +kernel) rfl
abbrev M_X10_grade : xM := (yX10_grade, cX10_grade, 3, (some .int), { frames := 5, cells := 0, slots := 0, locals := 107 })
abbrev M_X10_hasCondition : xM := (yX10_hasCondition, cX10_hasCondition, 3, (some .boolean), { frames := 2, cells := 0, slots := 0, locals := 46 })
abbrev M_X10_in : xM := (yX10_in, cX10_in, 6, (some .boolean), { frames := 0, cells := 0, slots := 0, locals := 0 })
abbrev M_X10_is : xM := (yX10_is, cX10_is, 7, (some .boolean), { frames := 0, cells := 0, slots := 0, locals := 0 })
abbrev M_X10_isDigit : xM := (yX10_isDigit, cX10_isDigit, 1, (some .boolean), { frames := 0, cells := 0, slots := 0, locals := 0 })
abbrev M_X10_isLetter : xM := (yX10_isLetter, cX10_isLetter, 1, (some .boolean), { frames := 0, cells := 0, slots := 0, locals := 0 })
abbrev M_X10_isNumber : xM := (yX10_isNumber, cX10_isNumber, 1, (some .boolean), { frames := 1, cells := 0, slots := 0, locals := 20 })
abbrev M_X10_isPlace : xM := (yX10_isPlace, cX10_isPlace, 3, (some .boolean), { frames := 1, cells := 0, slots := 0, locals := 25 })
abbrev M_X10_isSignHere : xM := (yX10_isSignHere, cX10_isSignHere, 1, (some .boolean), { frames := 1, cells := 0, slots := 0, locals := 26 })
abbrev M_X10_isState : xM := (yX10_isState, cX10_isState, 2, (some .boolean), { frames := 1, cells := 0, slots := 0, locals := 25 })
abbrev M_X10_kind : xM := (yX10_kind, cX10_kind, 3, (some .boolean), { frames := 1, cells := 0, slots := 0, locals := 25 })
abbrev M_X10_mark : xM := (yX10_mark, cX10_mark, 5, (some .boolean), { frames := 2, cells := 0, slots := 0, locals := 47 })
abbrev M_X10_number : xM := (yX10_number, cX10_number, 3, (some .int), { frames := 2, cells := 0, slots := 0, locals := 40 })
abbrev M_X10_readRule : xM := (yX10_readRule, cX10_readRule, 2, none, { frames := 4, cells := 0, slots := 0, locals := 86 })
abbrev M_X10_sortHere : xM := (yX10_sortHere, cX10_sortHere, 1, (some .int), { frames := 1, cells := 0, slots := 0, locals := 26 })
abbrev M_X10_split : xM := (yX10_split, cX10_split, 3, none, { frames := 1, cells := 0, slots := 0, locals := 20 })
abbrev M_X10_spot : xM := (yX10_spot, cX10_spot, 3, (some .int), { frames := 0, cells := 0, slots := 0, locals := 0 })
abbrev M_X10_thrown : xM := (yX10_thrown, cX10_thrown, 1, (some .int), { frames := 0, cells := 0, slots := 0, locals := 0 })
abbrev M_X10_unit : xM := (yX10_unit, cX10_unit, 2, (some .boolean), { frames := 1, cells := 0, slots := 0, locals := 25 })
abbrev M_X10_value : xM := (yX10_value, cX10_value, 5, none, { frames := 3, cells := 0, slots := 0, locals := 62 })
theorem dX10_thrown_0 : decode cX10_thrown 0 = .ok (.aload_n 0, 1) := by decide +kernel
theorem dX10_thrown_1 : decode cX10_thrown 1 = .ok (.getfield 91, 3) := by decide +kernel
theorem dX10_thrown_4 : decode cX10_thrown 4 = .ok (.ireturn, 1) := by decide +kernel
theorem dX10_in_0 : decode cX10_in 0 = .ok (.lload_n 0, 1) := by decide +kernel
theorem dX10_in_1 : decode cX10_in 1 = .ok (.lload_n 2, 1) := by decide +kernel
theorem dX10_in_2 : decode cX10_in 2 = .ok (.lcmp, 1) := by decide +kernel
theorem dX10_in_3 : decode cX10_in 3 = .ok (.ifCond .lt 14, 3) := by decide +kernel
theorem dX10_in_6 : decode cX10_in 6 = .ok (.lload_n 0, 1) := by decide +kernel
theorem dX10_in_7 : decode cX10_in 7 = .ok (.lload 4, 2) := by decide +kernel
theorem dX10_in_9 : decode cX10_in 9 = .ok (.lcmp, 1) := by decide +kernel
theorem dX10_in_10 : decode cX10_in 10 = .ok (.ifCond .gt 7, 3) := by decide +kernel
theorem dX10_in_13 : decode cX10_in 13 = .ok (.iconst 1, 1) := by decide +kernel
theorem dX10_in_14 : decode cX10_in 14 = .ok (.goto 4, 3) := by decide +kernel
theorem dX10_in_17 : decode cX10_in 17 = .ok (.iconst 0, 1) := by decide +kernel
theorem dX10_in_18 : decode cX10_in 18 = .ok (.ireturn, 1) := by decide +kernel
theorem dX10_isState_0 : decode cX10_isState 0 = .ok (.iload_n 1, 1) := by decide +kernel
theorem dX10_isState_1 : decode cX10_isState 1 = .ok (.i2l, 1) := by decide +kernel
theorem dX10_isState_2 : decode cX10_isState 2 = .ok (.lconst 0, 1) := by decide +kernel
theorem dX10_isState_3 : decode cX10_isState 3 = .ok (.aload_n 0, 1) := by decide +kernel
theorem dX10_isState_4 : decode cX10_isState 4 = .ok (.getfield 75, 3) := by decide +kernel
theorem dX10_isState_7 : decode cX10_isState 7 = .ok (.iconst 1, 1) := by decide +kernel
theorem dX10_isState_8 : decode cX10_isState 8 = .ok (.isub, 1) := by decide +kernel
theorem dX10_isState_9 : decode cX10_isState 9 = .ok (.i2l, 1) := by decide +kernel
theorem dX10_isState_10 : decode cX10_isState 10 = .ok (.invokestatic 94, 3) := by decide +kernel
theorem dX10_isState_13 : decode cX10_isState 13 = .ok (.ireturn, 1) := by decide +kernel
theorem dX10_isPlace_0 : decode cX10_isPlace 0 = .ok (.iload_n 1, 1) := by decide +kernel
theorem dX10_isPlace_1 : decode cX10_isPlace 1 = .ok (.i2l, 1) := by decide +kernel
theorem dX10_isPlace_2 : decode cX10_isPlace 2 = .ok (.lconst 0, 1) := by decide +kernel
theorem dX10_isPlace_3 : decode cX10_isPlace 3 = .ok (.ldc2_w 98, 3) := by decide +kernel
theorem dX10_isPlace_6 : decode cX10_isPlace 6 = .ok (.invokestatic 94, 3) := by decide +kernel
theorem dX10_isPlace_9 : decode cX10_isPlace 9 = .ok (.ifCond .eq 19, 3) := by decide +kernel
theorem dX10_isPlace_12 : decode cX10_isPlace 12 = .ok (.iload_n 2, 1) := by decide +kernel
theorem dX10_isPlace_13 : decode cX10_isPlace 13 = .ok (.i2l, 1) := by decide +kernel
theorem dX10_isPlace_14 : decode cX10_isPlace 14 = .ok (.lconst 0, 1) := by decide +kernel
theorem dX10_isPlace_15 : decode cX10_isPlace 15 = .ok (.ldc2_w 100, 3) := by decide +kernel
theorem dX10_isPlace_18 : decode cX10_isPlace 18 = .ok (.invokestatic 94, 3) := by decide +kernel
theorem dX10_isPlace_21 : decode cX10_isPlace 21 = .ok (.ifCond .eq 7, 3) := by decide +kernel
theorem dX10_isPlace_24 : decode cX10_isPlace 24 = .ok (.iconst 1, 1) := by decide +kernel
theorem dX10_isPlace_25 : decode cX10_isPlace 25 = .ok (.goto 4, 3) := by decide +kernel
theorem dX10_isPlace_28 : decode cX10_isPlace 28 = .ok (.iconst 0, 1) := by decide +kernel
theorem dX10_isPlace_29 : decode cX10_isPlace 29 = .ok (.ireturn, 1) := by decide +kernel
theorem dX10_spot_0 : decode cX10_spot 0 = .ok (.iconst 4, 1) := by decide +kernel
theorem dX10_spot_1 : decode cX10_spot 1 = .ok (.bipush 12, 2) := by decide +kernel
theorem dX10_spot_3 : decode cX10_spot 3 = .ok (.iload_n 0, 1) := by decide +kernel
theorem dX10_spot_4 : decode cX10_spot 4 = .ok (.imul, 1) := by decide +kernel
theorem dX10_spot_5 : decode cX10_spot 5 = .ok (.iload_n 1, 1) := by decide +kernel
theorem dX10_spot_6 : decode cX10_spot 6 = .ok (.iadd, 1) := by decide +kernel
theorem dX10_spot_7 : decode cX10_spot 7 = .ok (.imul, 1) := by decide +kernel
theorem dX10_spot_8 : decode cX10_spot 8 = .ok (.iload_n 2, 1) := by decide +kernel
theorem dX10_spot_9 : decode cX10_spot 9 = .ok (.iadd, 1) := by decide +kernel
theorem dX10_spot_10 : decode cX10_spot 10 = .ok (.ireturn, 1) := by decide +kernel
theorem dX10_mark_0 : decode cX10_mark 0 = .ok (.aload_n 0, 1) := by decide +kernel
theorem dX10_mark_1 : decode cX10_mark 1 = .ok (.iconst 0, 1) := by decide +kernel
theorem dX10_mark_2 : decode cX10_mark 2 = .ok (.putfield 91, 3) := by decide +kernel
theorem dX10_mark_5 : decode cX10_mark 5 = .ok (.aload_n 0, 1) := by decide +kernel
theorem dX10_mark_6 : decode cX10_mark 6 = .ok (.iload_n 1, 1) := by decide +kernel
theorem dX10_mark_7 : decode cX10_mark 7 = .ok (.iload_n 2, 1) := by decide +kernel
theorem dX10_mark_8 : decode cX10_mark 8 = .ok (.invokevirtual 102, 3) := by decide +kernel
theorem dX10_mark_11 : decode cX10_mark 11 = .ok (.ifCond .eq 15, 3) := by decide +kernel
theorem dX10_mark_14 : decode cX10_mark 14 = .ok (.iload_n 3, 1) := by decide +kernel
theorem dX10_mark_15 : decode cX10_mark 15 = .ok (.i2l, 1) := by decide +kernel
theorem dX10_mark_16 : decode cX10_mark 16 = .ok (.lconst 0, 1) := by decide +kernel
theorem dX10_mark_17 : decode cX10_mark 17 = .ok (.ldc2_w 106, 3) := by decide +kernel
theorem dX10_mark_20 : decode cX10_mark 20 = .ok (.invokestatic 94, 3) := by decide +kernel
theorem dX10_mark_23 : decode cX10_mark 23 = .ok (.ifCond .ne 5, 3) := by decide +kernel
theorem dX10_mark_26 : decode cX10_mark 26 = .ok (.iconst 0, 1) := by decide +kernel
theorem dX10_mark_27 : decode cX10_mark 27 = .ok (.ireturn, 1) := by decide +kernel
theorem dX10_mark_28 : decode cX10_mark 28 = .ok (.aload_n 0, 1) := by decide +kernel
theorem dX10_mark_29 : decode cX10_mark 29 = .ok (.aload_n 0, 1) := by decide +kernel
theorem dX10_mark_30 : decode cX10_mark 30 = .ok (.iload 4, 2) := by decide +kernel
theorem dX10_mark_32 : decode cX10_mark 32 = .ok (.invokevirtual 108, 3) := by decide +kernel
theorem dX10_mark_35 : decode cX10_mark 35 = .ok (.ifCond .eq 7, 3) := by decide +kernel
theorem dX10_mark_38 : decode cX10_mark 38 = .ok (.iconst 0, 1) := by decide +kernel
theorem dX10_mark_39 : decode cX10_mark 39 = .ok (.goto 4, 3) := by decide +kernel
theorem dX10_mark_42 : decode cX10_mark 42 = .ok (.iconst 1, 1) := by decide +kernel
theorem dX10_mark_43 : decode cX10_mark 43 = .ok (.putfield 91, 3) := by decide +kernel
theorem dX10_mark_46 : decode cX10_mark 46 = .ok (.aload_n 0, 1) := by decide +kernel
theorem dX10_mark_47 : decode cX10_mark 47 = .ok (.getfield 91, 3) := by decide +kernel
theorem dX10_mark_50 : decode cX10_mark 50 = .ok (.ifCond .le 5, 3) := by decide +kernel
theorem dX10_mark_53 : decode cX10_mark 53 = .ok (.iconst 0, 1) := by decide +kernel
theorem dX10_mark_54 : decode cX10_mark 54 = .ok (.ireturn, 1) := by decide +kernel
theorem dX10_mark_55 : decode cX10_mark 55 = .ok (.aload_n 0, 1) := by decide +kernel
theorem dX10_mark_56 : decode cX10_mark 56 = .ok (.getfield 7, 3) := by decide +kernel
theorem dX10_mark_59 : decode cX10_mark 59 = .ok (.iload_n 1, 1) := by decide +kernel
theorem dX10_mark_60 : decode cX10_mark 60 = .ok (.iload_n 2, 1) := by decide +kernel
theorem dX10_mark_61 : decode cX10_mark 61 = .ok (.iload_n 3, 1) := by decide +kernel
theorem dX10_mark_62 : decode cX10_mark 62 = .ok (.invokestatic 112, 3) := by decide +kernel
theorem dX10_mark_65 : decode cX10_mark 65 = .ok (.iload 4, 2) := by decide +kernel
theorem dX10_mark_67 : decode cX10_mark 67 = .ok (.iastore, 1) := by decide +kernel
theorem dX10_mark_68 : decode cX10_mark 68 = .ok (.aload_n 0, 1) := by decide +kernel
theorem dX10_mark_69 : decode cX10_mark 69 = .ok (.iconst 0, 1) := by decide +kernel
theorem dX10_mark_70 : decode cX10_mark 70 = .ok (.putfield 116, 3) := by decide +kernel
theorem dX10_mark_73 : decode cX10_mark 73 = .ok (.iconst 1, 1) := by decide +kernel
theorem dX10_mark_74 : decode cX10_mark 74 = .ok (.ireturn, 1) := by decide +kernel
theorem dX10_kind_0 : decode cX10_kind 0 = .ok (.aload_n 0, 1) := by decide +kernel
theorem dX10_kind_1 : decode cX10_kind 1 = .ok (.iconst 0, 1) := by decide +kernel
theorem dX10_kind_2 : decode cX10_kind 2 = .ok (.putfield 91, 3) := by decide +kernel
theorem dX10_kind_5 : decode cX10_kind 5 = .ok (.iload_n 1, 1) := by decide +kernel
theorem dX10_kind_6 : decode cX10_kind 6 = .ok (.i2l, 1) := by decide +kernel
theorem dX10_kind_7 : decode cX10_kind 7 = .ok (.lconst 0, 1) := by decide +kernel
theorem dX10_kind_8 : decode cX10_kind 8 = .ok (.ldc2_w 98, 3) := by decide +kernel
theorem dX10_kind_11 : decode cX10_kind 11 = .ok (.invokestatic 94, 3) := by decide +kernel
theorem dX10_kind_14 : decode cX10_kind 14 = .ok (.ifCond .eq 15, 3) := by decide +kernel
theorem dX10_kind_17 : decode cX10_kind 17 = .ok (.iload_n 2, 1) := by decide +kernel
theorem dX10_kind_18 : decode cX10_kind 18 = .ok (.i2l, 1) := by decide +kernel
theorem dX10_kind_19 : decode cX10_kind 19 = .ok (.lconst 0, 1) := by decide +kernel
theorem dX10_kind_20 : decode cX10_kind 20 = .ok (.ldc2_w 106, 3) := by decide +kernel
theorem dX10_kind_23 : decode cX10_kind 23 = .ok (.invokestatic 94, 3) := by decide +kernel
theorem dX10_kind_26 : decode cX10_kind 26 = .ok (.ifCond .ne 5, 3) := by decide +kernel
theorem dX10_kind_29 : decode cX10_kind 29 = .ok (.iconst 0, 1) := by decide +kernel
theorem dX10_kind_30 : decode cX10_kind 30 = .ok (.ireturn, 1) := by decide +kernel
theorem dX10_kind_31 : decode cX10_kind 31 = .ok (.aload_n 0, 1) := by decide +kernel
theorem dX10_kind_32 : decode cX10_kind 32 = .ok (.getfield 13, 3) := by decide +kernel
theorem dX10_kind_35 : decode cX10_kind 35 = .ok (.iload_n 1, 1) := by decide +kernel
theorem dX10_kind_36 : decode cX10_kind 36 = .ok (.iload_n 2, 1) := by decide +kernel
theorem dX10_kind_37 : decode cX10_kind 37 = .ok (.iastore, 1) := by decide +kernel
theorem dX10_kind_38 : decode cX10_kind 38 = .ok (.iconst 1, 1) := by decide +kernel
theorem dX10_kind_39 : decode cX10_kind 39 = .ok (.ireturn, 1) := by decide +kernel
theorem dX10_unit_0 : decode cX10_unit 0 = .ok (.aload_n 0, 1) := by decide +kernel
theorem dX10_unit_1 : decode cX10_unit 1 = .ok (.iconst 0, 1) := by decide +kernel
theorem dX10_unit_2 : decode cX10_unit 2 = .ok (.putfield 91, 3) := by decide +kernel
theorem dX10_unit_5 : decode cX10_unit 5 = .ok (.iload_n 1, 1) := by decide +kernel
theorem dX10_unit_6 : decode cX10_unit 6 = .ok (.i2l, 1) := by decide +kernel
theorem dX10_unit_7 : decode cX10_unit 7 = .ok (.ldc2_w 120, 3) := by decide +kernel
theorem dX10_unit_10 : decode cX10_unit 10 = .ok (.ldc2_w 122, 3) := by decide +kernel
theorem dX10_unit_13 : decode cX10_unit 13 = .ok (.invokestatic 94, 3) := by decide +kernel
theorem dX10_unit_16 : decode cX10_unit 16 = .ok (.ifCond .eq 12, 3) := by decide +kernel
theorem dX10_unit_19 : decode cX10_unit 19 = .ok (.aload_n 0, 1) := by decide +kernel
theorem dX10_unit_20 : decode cX10_unit 20 = .ok (.getfield 124, 3) := by decide +kernel
theorem dX10_unit_23 : decode cX10_unit 23 = .ok (.bipush 120, 2) := by decide +kernel
theorem dX10_unit_25 : decode cX10_unit 25 = .ok (.if_icmp .ne 5, 3) := by decide +kernel
theorem dX10_unit_28 : decode cX10_unit 28 = .ok (.iconst 0, 1) := by decide +kernel
theorem dX10_unit_29 : decode cX10_unit 29 = .ok (.ireturn, 1) := by decide +kernel
theorem dX10_unit_30 : decode cX10_unit 30 = .ok (.aload_n 0, 1) := by decide +kernel
theorem dX10_unit_31 : decode cX10_unit 31 = .ok (.getfield 16, 3) := by decide +kernel
theorem dX10_unit_34 : decode cX10_unit 34 = .ok (.aload_n 0, 1) := by decide +kernel
theorem dX10_unit_35 : decode cX10_unit 35 = .ok (.getfield 124, 3) := by decide +kernel
theorem dX10_unit_38 : decode cX10_unit 38 = .ok (.iload_n 1, 1) := by decide +kernel
theorem dX10_unit_39 : decode cX10_unit 39 = .ok (.iastore, 1) := by decide +kernel
theorem dX10_unit_40 : decode cX10_unit 40 = .ok (.aload_n 0, 1) := by decide +kernel
theorem dX10_unit_41 : decode cX10_unit 41 = .ok (.dup, 1) := by decide +kernel
theorem dX10_unit_42 : decode cX10_unit 42 = .ok (.getfield 124, 3) := by decide +kernel
theorem dX10_unit_45 : decode cX10_unit 45 = .ok (.iconst 1, 1) := by decide +kernel
theorem dX10_unit_46 : decode cX10_unit 46 = .ok (.iadd, 1) := by decide +kernel
theorem dX10_unit_47 : decode cX10_unit 47 = .ok (.putfield 124, 3) := by decide +kernel
theorem dX10_unit_50 : decode cX10_unit 50 = .ok (.iconst 1, 1) := by decide +kernel
theorem dX10_unit_51 : decode cX10_unit 51 = .ok (.ireturn, 1) := by decide +kernel
theorem dX10_isDigit_0 : decode cX10_isDigit 0 = .ok (.iload_n 0, 1) := by decide +kernel
theorem dX10_isDigit_1 : decode cX10_isDigit 1 = .ok (.bipush 48, 2) := by decide +kernel
theorem dX10_isDigit_3 : decode cX10_isDigit 3 = .ok (.if_icmp .lt 13, 3) := by decide +kernel
theorem dX10_isDigit_6 : decode cX10_isDigit 6 = .ok (.iload_n 0, 1) := by decide +kernel
theorem dX10_isDigit_7 : decode cX10_isDigit 7 = .ok (.bipush 57, 2) := by decide +kernel
theorem dX10_isDigit_9 : decode cX10_isDigit 9 = .ok (.if_icmp .gt 7, 3) := by decide +kernel
theorem dX10_isDigit_12 : decode cX10_isDigit 12 = .ok (.iconst 1, 1) := by decide +kernel
theorem dX10_isDigit_13 : decode cX10_isDigit 13 = .ok (.goto 4, 3) := by decide +kernel
theorem dX10_isDigit_16 : decode cX10_isDigit 16 = .ok (.iconst 0, 1) := by decide +kernel
theorem dX10_isDigit_17 : decode cX10_isDigit 17 = .ok (.ireturn, 1) := by decide +kernel
theorem dX10_isLetter_0 : decode cX10_isLetter 0 = .ok (.iload_n 0, 1) := by decide +kernel
theorem dX10_isLetter_1 : decode cX10_isLetter 1 = .ok (.bipush 97, 2) := by decide +kernel
theorem dX10_isLetter_3 : decode cX10_isLetter 3 = .ok (.if_icmp .lt 9, 3) := by decide +kernel
theorem dX10_isLetter_6 : decode cX10_isLetter 6 = .ok (.iload_n 0, 1) := by decide +kernel
theorem dX10_isLetter_7 : decode cX10_isLetter 7 = .ok (.bipush 122, 2) := by decide +kernel
theorem dX10_isLetter_9 : decode cX10_isLetter 9 = .ok (.if_icmp .le 15, 3) := by decide +kernel
theorem dX10_isLetter_12 : decode cX10_isLetter 12 = .ok (.iload_n 0, 1) := by decide +kernel
theorem dX10_isLetter_13 : decode cX10_isLetter 13 = .ok (.bipush 65, 2) := by decide +kernel
theorem dX10_isLetter_15 : decode cX10_isLetter 15 = .ok (.if_icmp .lt 13, 3) := by decide +kernel
theorem dX10_isLetter_18 : decode cX10_isLetter 18 = .ok (.iload_n 0, 1) := by decide +kernel
theorem dX10_isLetter_19 : decode cX10_isLetter 19 = .ok (.bipush 90, 2) := by decide +kernel
theorem dX10_isLetter_21 : decode cX10_isLetter 21 = .ok (.if_icmp .gt 7, 3) := by decide +kernel
theorem dX10_isLetter_24 : decode cX10_isLetter 24 = .ok (.iconst 1, 1) := by decide +kernel
theorem dX10_isLetter_25 : decode cX10_isLetter 25 = .ok (.goto 4, 3) := by decide +kernel
theorem dX10_isLetter_28 : decode cX10_isLetter 28 = .ok (.iconst 0, 1) := by decide +kernel
theorem dX10_isLetter_29 : decode cX10_isLetter 29 = .ok (.ireturn, 1) := by decide +kernel
theorem dX10_split_0 : decode cX10_split 0 = .ok (.aload_n 0, 1) := by decide +kernel
theorem dX10_split_1 : decode cX10_split 1 = .ok (.iconst 0, 1) := by decide +kernel
theorem dX10_split_2 : decode cX10_split 2 = .ok (.putfield 127, 3) := by decide +kernel
theorem dX10_split_5 : decode cX10_split 5 = .ok (.iconst 0, 1) := by decide +kernel
theorem dX10_split_6 : decode cX10_split 6 = .ok (.istore_n 1, 1) := by decide +kernel
theorem dX10_split_7 : decode cX10_split 7 = .ok (.iload_n 1, 1) := by decide +kernel
theorem dX10_split_8 : decode cX10_split 8 = .ok (.aload_n 0, 1) := by decide +kernel
theorem dX10_split_9 : decode cX10_split 9 = .ok (.getfield 124, 3) := by decide +kernel
theorem dX10_split_12 : decode cX10_split 12 = .ok (.if_icmp .ge 114, 3) := by decide +kernel
theorem dX10_split_15 : decode cX10_split 15 = .ok (.iload_n 1, 1) := by decide +kernel
theorem dX10_split_16 : decode cX10_split 16 = .ok (.istore_n 2, 1) := by decide +kernel
theorem dX10_split_17 : decode cX10_split 17 = .ok (.iinc 1 1, 3) := by decide +kernel
theorem dX10_split_20 : decode cX10_split 20 = .ok (.iload_n 1, 1) := by decide +kernel
theorem dX10_split_21 : decode cX10_split 21 = .ok (.aload_n 0, 1) := by decide +kernel
theorem dX10_split_22 : decode cX10_split 22 = .ok (.getfield 124, 3) := by decide +kernel
theorem dX10_split_25 : decode cX10_split 25 = .ok (.if_icmp .ge 57, 3) := by decide +kernel
theorem dX10_split_28 : decode cX10_split 28 = .ok (.aload_n 0, 1) := by decide +kernel
theorem dX10_split_29 : decode cX10_split 29 = .ok (.getfield 16, 3) := by decide +kernel
theorem dX10_split_32 : decode cX10_split 32 = .ok (.iload_n 2, 1) := by decide +kernel
theorem dX10_split_33 : decode cX10_split 33 = .ok (.iaload, 1) := by decide +kernel
theorem dX10_split_34 : decode cX10_split 34 = .ok (.invokestatic 130, 3) := by decide +kernel
theorem dX10_split_37 : decode cX10_split 37 = .ok (.ifCond .eq 15, 3) := by decide +kernel
theorem dX10_split_40 : decode cX10_split 40 = .ok (.aload_n 0, 1) := by decide +kernel
theorem dX10_split_41 : decode cX10_split 41 = .ok (.getfield 16, 3) := by decide +kernel
theorem dX10_split_44 : decode cX10_split 44 = .ok (.iload_n 1, 1) := by decide +kernel
theorem dX10_split_45 : decode cX10_split 45 = .ok (.iaload, 1) := by decide +kernel
theorem dX10_split_46 : decode cX10_split 46 = .ok (.invokestatic 130, 3) := by decide +kernel
theorem dX10_split_49 : decode cX10_split 49 = .ok (.ifCond .ne 27, 3) := by decide +kernel
theorem dX10_split_52 : decode cX10_split 52 = .ok (.aload_n 0, 1) := by decide +kernel
theorem dX10_split_53 : decode cX10_split 53 = .ok (.getfield 16, 3) := by decide +kernel
theorem dX10_split_56 : decode cX10_split 56 = .ok (.iload_n 2, 1) := by decide +kernel
theorem dX10_split_57 : decode cX10_split 57 = .ok (.iaload, 1) := by decide +kernel
theorem dX10_split_58 : decode cX10_split 58 = .ok (.invokestatic 133, 3) := by decide +kernel
theorem dX10_split_61 : decode cX10_split 61 = .ok (.ifCond .eq 21, 3) := by decide +kernel
theorem dX10_split_64 : decode cX10_split 64 = .ok (.aload_n 0, 1) := by decide +kernel
theorem dX10_split_65 : decode cX10_split 65 = .ok (.getfield 16, 3) := by decide +kernel
theorem dX10_split_68 : decode cX10_split 68 = .ok (.iload_n 1, 1) := by decide +kernel
theorem dX10_split_69 : decode cX10_split 69 = .ok (.iaload, 1) := by decide +kernel
theorem dX10_split_70 : decode cX10_split 70 = .ok (.invokestatic 133, 3) := by decide +kernel
theorem dX10_split_73 : decode cX10_split 73 = .ok (.ifCond .eq 9, 3) := by decide +kernel
theorem dX10_split_76 : decode cX10_split 76 = .ok (.iinc 1 1, 3) := by decide +kernel
theorem dX10_split_79 : decode cX10_split 79 = .ok (.goto (-59), 3) := by decide +kernel
theorem dX10_split_82 : decode cX10_split 82 = .ok (.aload_n 0, 1) := by decide +kernel
theorem dX10_split_83 : decode cX10_split 83 = .ok (.getfield 16, 3) := by decide +kernel
theorem dX10_split_86 : decode cX10_split 86 = .ok (.iload_n 2, 1) := by decide +kernel
theorem dX10_split_87 : decode cX10_split 87 = .ok (.iaload, 1) := by decide +kernel
theorem dX10_split_88 : decode cX10_split 88 = .ok (.bipush 32, 2) := by decide +kernel
theorem dX10_split_90 : decode cX10_split 90 = .ok (.if_icmp .eq 33, 3) := by decide +kernel
theorem dX10_split_93 : decode cX10_split 93 = .ok (.aload_n 0, 1) := by decide +kernel
theorem dX10_split_94 : decode cX10_split 94 = .ok (.getfield 19, 3) := by decide +kernel
theorem dX10_split_97 : decode cX10_split 97 = .ok (.aload_n 0, 1) := by decide +kernel
theorem dX10_split_98 : decode cX10_split 98 = .ok (.getfield 127, 3) := by decide +kernel
theorem dX10_split_101 : decode cX10_split 101 = .ok (.iload_n 2, 1) := by decide +kernel
theorem dX10_split_102 : decode cX10_split 102 = .ok (.iastore, 1) := by decide +kernel
theorem dX10_split_103 : decode cX10_split 103 = .ok (.aload_n 0, 1) := by decide +kernel
theorem dX10_split_104 : decode cX10_split 104 = .ok (.getfield 22, 3) := by decide +kernel
theorem dX10_split_107 : decode cX10_split 107 = .ok (.aload_n 0, 1) := by decide +kernel
theorem dX10_split_108 : decode cX10_split 108 = .ok (.getfield 127, 3) := by decide +kernel
theorem dX10_split_111 : decode cX10_split 111 = .ok (.iload_n 1, 1) := by decide +kernel
theorem dX10_split_112 : decode cX10_split 112 = .ok (.iastore, 1) := by decide +kernel
theorem dX10_split_113 : decode cX10_split 113 = .ok (.aload_n 0, 1) := by decide +kernel
theorem dX10_split_114 : decode cX10_split 114 = .ok (.dup, 1) := by decide +kernel
theorem dX10_split_115 : decode cX10_split 115 = .ok (.getfield 127, 3) := by decide +kernel
theorem dX10_split_118 : decode cX10_split 118 = .ok (.iconst 1, 1) := by decide +kernel
theorem dX10_split_119 : decode cX10_split 119 = .ok (.iadd, 1) := by decide +kernel
theorem dX10_split_120 : decode cX10_split 120 = .ok (.putfield 127, 3) := by decide +kernel
theorem dX10_split_123 : decode cX10_split 123 = .ok (.goto (-116), 3) := by decide +kernel
theorem dX10_split_126 : decode cX10_split 126 = .ok (.return_, 1) := by decide +kernel
theorem dX10_is_0 : decode cX10_is 0 = .ok (.aload_n 0, 1) := by decide +kernel
theorem dX10_is_1 : decode cX10_is 1 = .ok (.getfield 136, 3) := by decide +kernel
theorem dX10_is_4 : decode cX10_is 4 = .ok (.aload_n 0, 1) := by decide +kernel
theorem dX10_is_5 : decode cX10_is 5 = .ok (.getfield 127, 3) := by decide +kernel
theorem dX10_is_8 : decode cX10_is 8 = .ok (.if_icmp .ge 15, 3) := by decide +kernel
theorem dX10_is_11 : decode cX10_is 11 = .ok (.aload_n 0, 1) := by decide +kernel
theorem dX10_is_12 : decode cX10_is 12 = .ok (.getfield 19, 3) := by decide +kernel
theorem dX10_is_15 : decode cX10_is 15 = .ok (.aload_n 0, 1) := by decide +kernel
theorem dX10_is_16 : decode cX10_is 16 = .ok (.getfield 136, 3) := by decide +kernel
theorem dX10_is_19 : decode cX10_is 19 = .ok (.iaload, 1) := by decide +kernel
theorem dX10_is_20 : decode cX10_is 20 = .ok (.goto 4, 3) := by decide +kernel
theorem dX10_is_23 : decode cX10_is 23 = .ok (.iconst 0, 1) := by decide +kernel
theorem dX10_is_24 : decode cX10_is 24 = .ok (.istore 4, 2) := by decide +kernel
theorem dX10_is_26 : decode cX10_is 26 = .ok (.aload_n 0, 1) := by decide +kernel
theorem dX10_is_27 : decode cX10_is 27 = .ok (.getfield 136, 3) := by decide +kernel
theorem dX10_is_30 : decode cX10_is 30 = .ok (.aload_n 0, 1) := by decide +kernel
theorem dX10_is_31 : decode cX10_is 31 = .ok (.getfield 127, 3) := by decide +kernel
theorem dX10_is_34 : decode cX10_is 34 = .ok (.if_icmp .ge 18, 3) := by decide +kernel
theorem dX10_is_37 : decode cX10_is 37 = .ok (.aload_n 0, 1) := by decide +kernel
theorem dX10_is_38 : decode cX10_is 38 = .ok (.getfield 22, 3) := by decide +kernel
theorem dX10_is_41 : decode cX10_is 41 = .ok (.aload_n 0, 1) := by decide +kernel
theorem dX10_is_42 : decode cX10_is 42 = .ok (.getfield 136, 3) := by decide +kernel
theorem dX10_is_45 : decode cX10_is 45 = .ok (.iaload, 1) := by decide +kernel
theorem dX10_is_46 : decode cX10_is 46 = .ok (.iload 4, 2) := by decide +kernel
theorem dX10_is_48 : decode cX10_is 48 = .ok (.isub, 1) := by decide +kernel
theorem dX10_is_49 : decode cX10_is 49 = .ok (.goto 4, 3) := by decide +kernel
theorem dX10_is_52 : decode cX10_is 52 = .ok (.iconst 0, 1) := by decide +kernel
theorem dX10_is_53 : decode cX10_is 53 = .ok (.istore 5, 2) := by decide +kernel
theorem dX10_is_55 : decode cX10_is 55 = .ok (.iload_n 3, 1) := by decide +kernel
theorem dX10_is_56 : decode cX10_is 56 = .ok (.ifCond .eq 7, 3) := by decide +kernel
theorem dX10_is_59 : decode cX10_is 59 = .ok (.iconst 3, 1) := by decide +kernel
theorem dX10_is_60 : decode cX10_is 60 = .ok (.goto 12, 3) := by decide +kernel
theorem dX10_is_63 : decode cX10_is 63 = .ok (.iload_n 2, 1) := by decide +kernel
theorem dX10_is_64 : decode cX10_is 64 = .ok (.ifCond .eq 7, 3) := by decide +kernel
theorem dX10_is_67 : decode cX10_is 67 = .ok (.iconst 2, 1) := by decide +kernel
theorem dX10_is_68 : decode cX10_is 68 = .ok (.goto 4, 3) := by decide +kernel
theorem dX10_is_71 : decode cX10_is 71 = .ok (.iconst 1, 1) := by decide +kernel
theorem dX10_is_72 : decode cX10_is 72 = .ok (.istore 6, 2) := by decide +kernel
theorem dX10_is_74 : decode cX10_is 74 = .ok (.iload 5, 2) := by decide +kernel
theorem dX10_is_76 : decode cX10_is 76 = .ok (.iload 6, 2) := by decide +kernel
theorem dX10_is_78 : decode cX10_is 78 = .ok (.if_icmp .ne 56, 3) := by decide +kernel
theorem dX10_is_81 : decode cX10_is 81 = .ok (.aload_n 0, 1) := by decide +kernel
theorem dX10_is_82 : decode cX10_is 82 = .ok (.getfield 16, 3) := by decide +kernel
theorem dX10_is_85 : decode cX10_is 85 = .ok (.iload 4, 2) := by decide +kernel
theorem dX10_is_87 : decode cX10_is 87 = .ok (.iaload, 1) := by decide +kernel
theorem dX10_is_88 : decode cX10_is 88 = .ok (.iload_n 1, 1) := by decide +kernel
theorem dX10_is_89 : decode cX10_is 89 = .ok (.if_icmp .ne 45, 3) := by decide +kernel
theorem dX10_is_92 : decode cX10_is 92 = .ok (.iload 5, 2) := by decide +kernel
theorem dX10_is_94 : decode cX10_is 94 = .ok (.iconst 2, 1) := by decide +kernel
theorem dX10_is_95 : decode cX10_is 95 = .ok (.if_icmp .lt 16, 3) := by decide +kernel
theorem dX10_is_98 : decode cX10_is 98 = .ok (.aload_n 0, 1) := by decide +kernel
theorem dX10_is_99 : decode cX10_is 99 = .ok (.getfield 16, 3) := by decide +kernel
theorem dX10_is_102 : decode cX10_is 102 = .ok (.iload 4, 2) := by decide +kernel
theorem dX10_is_104 : decode cX10_is 104 = .ok (.iconst 1, 1) := by decide +kernel
theorem dX10_is_105 : decode cX10_is 105 = .ok (.iadd, 1) := by decide +kernel
theorem dX10_is_106 : decode cX10_is 106 = .ok (.iaload, 1) := by decide +kernel
theorem dX10_is_107 : decode cX10_is 107 = .ok (.iload_n 2, 1) := by decide +kernel
theorem dX10_is_108 : decode cX10_is 108 = .ok (.if_icmp .ne 26, 3) := by decide +kernel
theorem dX10_is_111 : decode cX10_is 111 = .ok (.iload 5, 2) := by decide +kernel
theorem dX10_is_113 : decode cX10_is 113 = .ok (.iconst 3, 1) := by decide +kernel
theorem dX10_is_114 : decode cX10_is 114 = .ok (.if_icmp .lt 16, 3) := by decide +kernel
theorem dX10_is_117 : decode cX10_is 117 = .ok (.aload_n 0, 1) := by decide +kernel
theorem dX10_is_118 : decode cX10_is 118 = .ok (.getfield 16, 3) := by decide +kernel
theorem dX10_is_121 : decode cX10_is 121 = .ok (.iload 4, 2) := by decide +kernel
theorem dX10_is_123 : decode cX10_is 123 = .ok (.iconst 2, 1) := by decide +kernel
theorem dX10_is_124 : decode cX10_is 124 = .ok (.iadd, 1) := by decide +kernel
theorem dX10_is_125 : decode cX10_is 125 = .ok (.iaload, 1) := by decide +kernel
theorem dX10_is_126 : decode cX10_is 126 = .ok (.iload_n 3, 1) := by decide +kernel
theorem dX10_is_127 : decode cX10_is 127 = .ok (.if_icmp .ne 7, 3) := by decide +kernel
theorem dX10_is_130 : decode cX10_is 130 = .ok (.iconst 1, 1) := by decide +kernel
theorem dX10_is_131 : decode cX10_is 131 = .ok (.goto 4, 3) := by decide +kernel
theorem dX10_is_134 : decode cX10_is 134 = .ok (.iconst 0, 1) := by decide +kernel
theorem dX10_is_135 : decode cX10_is 135 = .ok (.ireturn, 1) := by decide +kernel
theorem dX10_isNumber_0 : decode cX10_isNumber 0 = .ok (.aload_n 0, 1) := by decide +kernel
theorem dX10_isNumber_1 : decode cX10_isNumber 1 = .ok (.getfield 136, 3) := by decide +kernel
theorem dX10_isNumber_4 : decode cX10_isNumber 4 = .ok (.aload_n 0, 1) := by decide +kernel
theorem dX10_isNumber_5 : decode cX10_isNumber 5 = .ok (.getfield 127, 3) := by decide +kernel
theorem dX10_isNumber_8 : decode cX10_isNumber 8 = .ok (.if_icmp .ge 50, 3) := by decide +kernel
theorem dX10_isNumber_11 : decode cX10_isNumber 11 = .ok (.aload_n 0, 1) := by decide +kernel
theorem dX10_isNumber_12 : decode cX10_isNumber 12 = .ok (.getfield 16, 3) := by decide +kernel
theorem dX10_isNumber_15 : decode cX10_isNumber 15 = .ok (.aload_n 0, 1) := by decide +kernel
theorem dX10_isNumber_16 : decode cX10_isNumber 16 = .ok (.getfield 19, 3) := by decide +kernel
theorem dX10_isNumber_19 : decode cX10_isNumber 19 = .ok (.aload_n 0, 1) := by decide +kernel
theorem dX10_isNumber_20 : decode cX10_isNumber 20 = .ok (.getfield 136, 3) := by decide +kernel
theorem dX10_isNumber_23 : decode cX10_isNumber 23 = .ok (.iaload, 1) := by decide +kernel
theorem dX10_isNumber_24 : decode cX10_isNumber 24 = .ok (.iaload, 1) := by decide +kernel
theorem dX10_isNumber_25 : decode cX10_isNumber 25 = .ok (.invokestatic 130, 3) := by decide +kernel
theorem dX10_isNumber_28 : decode cX10_isNumber 28 = .ok (.ifCond .eq 30, 3) := by decide +kernel
theorem dX10_isNumber_31 : decode cX10_isNumber 31 = .ok (.aload_n 0, 1) := by decide +kernel
theorem dX10_isNumber_32 : decode cX10_isNumber 32 = .ok (.getfield 22, 3) := by decide +kernel
theorem dX10_isNumber_35 : decode cX10_isNumber 35 = .ok (.aload_n 0, 1) := by decide +kernel
theorem dX10_isNumber_36 : decode cX10_isNumber 36 = .ok (.getfield 136, 3) := by decide +kernel
theorem dX10_isNumber_39 : decode cX10_isNumber 39 = .ok (.iaload, 1) := by decide +kernel
theorem dX10_isNumber_40 : decode cX10_isNumber 40 = .ok (.aload_n 0, 1) := by decide +kernel
theorem dX10_isNumber_41 : decode cX10_isNumber 41 = .ok (.getfield 19, 3) := by decide +kernel
theorem dX10_isNumber_44 : decode cX10_isNumber 44 = .ok (.aload_n 0, 1) := by decide +kernel
theorem dX10_isNumber_45 : decode cX10_isNumber 45 = .ok (.getfield 136, 3) := by decide +kernel
theorem dX10_isNumber_48 : decode cX10_isNumber 48 = .ok (.iaload, 1) := by decide +kernel
theorem dX10_isNumber_49 : decode cX10_isNumber 49 = .ok (.isub, 1) := by decide +kernel
theorem dX10_isNumber_50 : decode cX10_isNumber 50 = .ok (.iconst 4, 1) := by decide +kernel
theorem dX10_isNumber_51 : decode cX10_isNumber 51 = .ok (.if_icmp .ge 7, 3) := by decide +kernel
theorem dX10_isNumber_54 : decode cX10_isNumber 54 = .ok (.iconst 1, 1) := by decide +kernel
theorem dX10_isNumber_55 : decode cX10_isNumber 55 = .ok (.goto 4, 3) := by decide +kernel
theorem dX10_isNumber_58 : decode cX10_isNumber 58 = .ok (.iconst 0, 1) := by decide +kernel
theorem dX10_isNumber_59 : decode cX10_isNumber 59 = .ok (.ireturn, 1) := by decide +kernel
theorem dX10_number_0 : decode cX10_number 0 = .ok (.aload_n 0, 1) := by decide +kernel
theorem dX10_number_1 : decode cX10_number 1 = .ok (.getfield 139, 3) := by decide +kernel
theorem dX10_number_4 : decode cX10_number 4 = .ok (.ifCond .ne 10, 3) := by decide +kernel
theorem dX10_number_7 : decode cX10_number 7 = .ok (.aload_n 0, 1) := by decide +kernel
theorem dX10_number_8 : decode cX10_number 8 = .ok (.invokevirtual 142, 3) := by decide +kernel
theorem dX10_number_11 : decode cX10_number 11 = .ok (.ifCond .ne 10, 3) := by decide +kernel
theorem dX10_number_14 : decode cX10_number 14 = .ok (.aload_n 0, 1) := by decide +kernel
theorem dX10_number_15 : decode cX10_number 15 = .ok (.iconst 1, 1) := by decide +kernel
theorem dX10_number_16 : decode cX10_number 16 = .ok (.putfield 139, 3) := by decide +kernel
theorem dX10_number_19 : decode cX10_number 19 = .ok (.iconst (-1), 1) := by decide +kernel
theorem dX10_number_20 : decode cX10_number 20 = .ok (.ireturn, 1) := by decide +kernel
theorem dX10_number_21 : decode cX10_number 21 = .ok (.iconst 0, 1) := by decide +kernel
theorem dX10_number_22 : decode cX10_number 22 = .ok (.istore_n 1, 1) := by decide +kernel
theorem dX10_number_23 : decode cX10_number 23 = .ok (.aload_n 0, 1) := by decide +kernel
theorem dX10_number_24 : decode cX10_number 24 = .ok (.getfield 19, 3) := by decide +kernel
theorem dX10_number_27 : decode cX10_number 27 = .ok (.aload_n 0, 1) := by decide +kernel
theorem dX10_number_28 : decode cX10_number 28 = .ok (.getfield 136, 3) := by decide +kernel
theorem dX10_number_31 : decode cX10_number 31 = .ok (.iaload, 1) := by decide +kernel
theorem dX10_number_32 : decode cX10_number 32 = .ok (.istore_n 2, 1) := by decide +kernel
theorem dX10_number_33 : decode cX10_number 33 = .ok (.iload_n 2, 1) := by decide +kernel
theorem dX10_number_34 : decode cX10_number 34 = .ok (.aload_n 0, 1) := by decide +kernel
theorem dX10_number_35 : decode cX10_number 35 = .ok (.getfield 22, 3) := by decide +kernel
theorem dX10_number_38 : decode cX10_number 38 = .ok (.aload_n 0, 1) := by decide +kernel
theorem dX10_number_39 : decode cX10_number 39 = .ok (.getfield 136, 3) := by decide +kernel
theorem dX10_number_42 : decode cX10_number 42 = .ok (.iaload, 1) := by decide +kernel
theorem dX10_number_43 : decode cX10_number 43 = .ok (.if_icmp .ge 24, 3) := by decide +kernel
theorem dX10_number_46 : decode cX10_number 46 = .ok (.bipush 10, 2) := by decide +kernel
theorem dX10_number_48 : decode cX10_number 48 = .ok (.iload_n 1, 1) := by decide +kernel
theorem dX10_number_49 : decode cX10_number 49 = .ok (.imul, 1) := by decide +kernel
theorem dX10_number_50 : decode cX10_number 50 = .ok (.aload_n 0, 1) := by decide +kernel
theorem dX10_number_51 : decode cX10_number 51 = .ok (.getfield 16, 3) := by decide +kernel
theorem dX10_number_54 : decode cX10_number 54 = .ok (.iload_n 2, 1) := by decide +kernel
theorem dX10_number_55 : decode cX10_number 55 = .ok (.iaload, 1) := by decide +kernel
theorem dX10_number_56 : decode cX10_number 56 = .ok (.iadd, 1) := by decide +kernel
theorem dX10_number_57 : decode cX10_number 57 = .ok (.bipush 48, 2) := by decide +kernel
theorem dX10_number_59 : decode cX10_number 59 = .ok (.isub, 1) := by decide +kernel
theorem dX10_number_60 : decode cX10_number 60 = .ok (.istore_n 1, 1) := by decide +kernel
theorem dX10_number_61 : decode cX10_number 61 = .ok (.iinc 2 1, 3) := by decide +kernel
theorem dX10_number_64 : decode cX10_number 64 = .ok (.goto (-31), 3) := by decide +kernel
theorem dX10_number_67 : decode cX10_number 67 = .ok (.aload_n 0, 1) := by decide +kernel
theorem dX10_number_68 : decode cX10_number 68 = .ok (.dup, 1) := by decide +kernel
theorem dX10_number_69 : decode cX10_number 69 = .ok (.getfield 136, 3) := by decide +kernel
theorem dX10_number_72 : decode cX10_number 72 = .ok (.iconst 1, 1) := by decide +kernel
theorem dX10_number_73 : decode cX10_number 73 = .ok (.iadd, 1) := by decide +kernel
theorem dX10_number_74 : decode cX10_number 74 = .ok (.putfield 136, 3) := by decide +kernel
theorem dX10_number_77 : decode cX10_number 77 = .ok (.iload_n 1, 1) := by decide +kernel
theorem dX10_number_78 : decode cX10_number 78 = .ok (.ireturn, 1) := by decide +kernel
theorem dX10_sortHere_0 : decode cX10_sortHere 0 = .ok (.aload_n 0, 1) := by decide +kernel
theorem dX10_sortHere_1 : decode cX10_sortHere 1 = .ok (.bipush 109, 2) := by decide +kernel
theorem dX10_sortHere_3 : decode cX10_sortHere 3 = .ok (.bipush 97, 2) := by decide +kernel
theorem dX10_sortHere_5 : decode cX10_sortHere 5 = .ok (.bipush 120, 2) := by decide +kernel
theorem dX10_sortHere_7 : decode cX10_sortHere 7 = .ok (.invokevirtual 146, 3) := by decide +kernel
theorem dX10_sortHere_10 : decode cX10_sortHere 10 = .ok (.ifCond .eq 7, 3) := by decide +kernel
theorem dX10_sortHere_13 : decode cX10_sortHere 13 = .ok (.iconst 2, 1) := by decide +kernel
theorem dX10_sortHere_14 : decode cX10_sortHere 14 = .ok (.goto 68, 3) := by decide +kernel
theorem dX10_sortHere_17 : decode cX10_sortHere 17 = .ok (.aload_n 0, 1) := by decide +kernel
theorem dX10_sortHere_18 : decode cX10_sortHere 18 = .ok (.bipush 109, 2) := by decide +kernel
theorem dX10_sortHere_20 : decode cX10_sortHere 20 = .ok (.bipush 105, 2) := by decide +kernel
theorem dX10_sortHere_22 : decode cX10_sortHere 22 = .ok (.bipush 110, 2) := by decide +kernel
theorem dX10_sortHere_24 : decode cX10_sortHere 24 = .ok (.invokevirtual 146, 3) := by decide +kernel
theorem dX10_sortHere_27 : decode cX10_sortHere 27 = .ok (.ifCond .eq 7, 3) := by decide +kernel
theorem dX10_sortHere_30 : decode cX10_sortHere 30 = .ok (.iconst 3, 1) := by decide +kernel
theorem dX10_sortHere_31 : decode cX10_sortHere 31 = .ok (.goto 51, 3) := by decide +kernel
theorem dX10_sortHere_34 : decode cX10_sortHere 34 = .ok (.aload_n 0, 1) := by decide +kernel
theorem dX10_sortHere_35 : decode cX10_sortHere 35 = .ok (.bipush 109, 2) := by decide +kernel
theorem dX10_sortHere_37 : decode cX10_sortHere 37 = .ok (.bipush 105, 2) := by decide +kernel
theorem dX10_sortHere_39 : decode cX10_sortHere 39 = .ok (.bipush 100, 2) := by decide +kernel
theorem dX10_sortHere_41 : decode cX10_sortHere 41 = .ok (.invokevirtual 146, 3) := by decide +kernel
theorem dX10_sortHere_44 : decode cX10_sortHere 44 = .ok (.ifCond .eq 7, 3) := by decide +kernel
theorem dX10_sortHere_47 : decode cX10_sortHere 47 = .ok (.iconst 5, 1) := by decide +kernel
theorem dX10_sortHere_48 : decode cX10_sortHere 48 = .ok (.goto 34, 3) := by decide +kernel
theorem dX10_sortHere_51 : decode cX10_sortHere 51 = .ok (.aload_n 0, 1) := by decide +kernel
theorem dX10_sortHere_52 : decode cX10_sortHere 52 = .ok (.bipush 110, 2) := by decide +kernel
theorem dX10_sortHere_54 : decode cX10_sortHere 54 = .ok (.iconst 0, 1) := by decide +kernel
theorem dX10_sortHere_55 : decode cX10_sortHere 55 = .ok (.iconst 0, 1) := by decide +kernel
theorem dX10_sortHere_56 : decode cX10_sortHere 56 = .ok (.invokevirtual 146, 3) := by decide +kernel
theorem dX10_sortHere_59 : decode cX10_sortHere 59 = .ok (.ifCond .eq 7, 3) := by decide +kernel
theorem dX10_sortHere_62 : decode cX10_sortHere 62 = .ok (.iconst 1, 1) := by decide +kernel
theorem dX10_sortHere_63 : decode cX10_sortHere 63 = .ok (.goto 19, 3) := by decide +kernel
theorem dX10_sortHere_66 : decode cX10_sortHere 66 = .ok (.aload_n 0, 1) := by decide +kernel
theorem dX10_sortHere_67 : decode cX10_sortHere 67 = .ok (.bipush 35, 2) := by decide +kernel
theorem dX10_sortHere_69 : decode cX10_sortHere 69 = .ok (.iconst 0, 1) := by decide +kernel
theorem dX10_sortHere_70 : decode cX10_sortHere 70 = .ok (.iconst 0, 1) := by decide +kernel
theorem dX10_sortHere_71 : decode cX10_sortHere 71 = .ok (.invokevirtual 146, 3) := by decide +kernel
theorem dX10_sortHere_74 : decode cX10_sortHere 74 = .ok (.ifCond .eq 7, 3) := by decide +kernel
theorem dX10_sortHere_77 : decode cX10_sortHere 77 = .ok (.iconst 4, 1) := by decide +kernel
theorem dX10_sortHere_78 : decode cX10_sortHere 78 = .ok (.goto 4, 3) := by decide +kernel
theorem dX10_sortHere_81 : decode cX10_sortHere 81 = .ok (.iconst 0, 1) := by decide +kernel
theorem dX10_sortHere_82 : decode cX10_sortHere 82 = .ok (.ireturn, 1) := by decide +kernel
theorem dX10_isSignHere_0 : decode cX10_isSignHere 0 = .ok (.aload_n 0, 1) := by decide +kernel
theorem dX10_isSignHere_1 : decode cX10_isSignHere 1 = .ok (.bipush 60, 2) := by decide +kernel
theorem dX10_isSignHere_3 : decode cX10_isSignHere 3 = .ok (.iconst 0, 1) := by decide +kernel
theorem dX10_isSignHere_4 : decode cX10_isSignHere 4 = .ok (.iconst 0, 1) := by decide +kernel
theorem dX10_isSignHere_5 : decode cX10_isSignHere 5 = .ok (.invokevirtual 146, 3) := by decide +kernel
theorem dX10_isSignHere_8 : decode cX10_isSignHere 8 = .ok (.ifCond .ne 25, 3) := by decide +kernel
theorem dX10_isSignHere_11 : decode cX10_isSignHere 11 = .ok (.aload_n 0, 1) := by decide +kernel
theorem dX10_isSignHere_12 : decode cX10_isSignHere 12 = .ok (.bipush 61, 2) := by decide +kernel
theorem dX10_isSignHere_14 : decode cX10_isSignHere 14 = .ok (.iconst 0, 1) := by decide +kernel
theorem dX10_isSignHere_15 : decode cX10_isSignHere 15 = .ok (.iconst 0, 1) := by decide +kernel
theorem dX10_isSignHere_16 : decode cX10_isSignHere 16 = .ok (.invokevirtual 146, 3) := by decide +kernel
theorem dX10_isSignHere_19 : decode cX10_isSignHere 19 = .ok (.ifCond .ne 14, 3) := by decide +kernel
theorem dX10_isSignHere_22 : decode cX10_isSignHere 22 = .ok (.aload_n 0, 1) := by decide +kernel
theorem dX10_isSignHere_23 : decode cX10_isSignHere 23 = .ok (.bipush 62, 2) := by decide +kernel
theorem dX10_isSignHere_25 : decode cX10_isSignHere 25 = .ok (.iconst 0, 1) := by decide +kernel
theorem dX10_isSignHere_26 : decode cX10_isSignHere 26 = .ok (.iconst 0, 1) := by decide +kernel
theorem dX10_isSignHere_27 : decode cX10_isSignHere 27 = .ok (.invokevirtual 146, 3) := by decide +kernel
theorem dX10_isSignHere_30 : decode cX10_isSignHere 30 = .ok (.ifCond .eq 7, 3) := by decide +kernel
theorem dX10_isSignHere_33 : decode cX10_isSignHere 33 = .ok (.iconst 1, 1) := by decide +kernel
theorem dX10_isSignHere_34 : decode cX10_isSignHere 34 = .ok (.goto 4, 3) := by decide +kernel
theorem dX10_isSignHere_37 : decode cX10_isSignHere 37 = .ok (.iconst 0, 1) := by decide +kernel
theorem dX10_isSignHere_38 : decode cX10_isSignHere 38 = .ok (.ireturn, 1) := by decide +kernel
theorem dX10_value_0 : decode cX10_value 0 = .ok (.aload_n 0, 1) := by decide +kernel
theorem dX10_value_1 : decode cX10_value 1 = .ok (.invokevirtual 150, 3) := by decide +kernel
theorem dX10_value_4 : decode cX10_value 4 = .ok (.istore_n 2, 1) := by decide +kernel
theorem dX10_value_5 : decode cX10_value 5 = .ok (.iload_n 2, 1) := by decide +kernel
theorem dX10_value_6 : decode cX10_value 6 = .ok (.iconst 2, 1) := by decide +kernel
theorem dX10_value_7 : decode cX10_value 7 = .ok (.if_icmp .eq 13, 3) := by decide +kernel
theorem dX10_value_10 : decode cX10_value 10 = .ok (.iload_n 2, 1) := by decide +kernel
theorem dX10_value_11 : decode cX10_value 11 = .ok (.iconst 3, 1) := by decide +kernel
theorem dX10_value_12 : decode cX10_value 12 = .ok (.if_icmp .eq 8, 3) := by decide +kernel
theorem dX10_value_15 : decode cX10_value 15 = .ok (.iload_n 2, 1) := by decide +kernel
theorem dX10_value_16 : decode cX10_value 16 = .ok (.iconst 5, 1) := by decide +kernel
theorem dX10_value_17 : decode cX10_value 17 = .ok (.if_icmp .ne 23, 3) := by decide +kernel
theorem dX10_value_20 : decode cX10_value 20 = .ok (.aload_n 0, 1) := by decide +kernel
theorem dX10_value_21 : decode cX10_value 21 = .ok (.getfield 28, 3) := by decide +kernel
theorem dX10_value_24 : decode cX10_value 24 = .ok (.iload_n 1, 1) := by decide +kernel
theorem dX10_value_25 : decode cX10_value 25 = .ok (.iconst 4, 1) := by decide +kernel
theorem dX10_value_26 : decode cX10_value 26 = .ok (.iadd, 1) := by decide +kernel
theorem dX10_value_27 : decode cX10_value 27 = .ok (.iload_n 2, 1) := by decide +kernel
theorem dX10_value_28 : decode cX10_value 28 = .ok (.iastore, 1) := by decide +kernel
theorem dX10_value_29 : decode cX10_value 29 = .ok (.aload_n 0, 1) := by decide +kernel
theorem dX10_value_30 : decode cX10_value 30 = .ok (.dup, 1) := by decide +kernel
theorem dX10_value_31 : decode cX10_value 31 = .ok (.getfield 136, 3) := by decide +kernel
theorem dX10_value_34 : decode cX10_value 34 = .ok (.iconst 1, 1) := by decide +kernel
theorem dX10_value_35 : decode cX10_value 35 = .ok (.iadd, 1) := by decide +kernel
theorem dX10_value_36 : decode cX10_value 36 = .ok (.putfield 136, 3) := by decide +kernel
theorem dX10_value_39 : decode cX10_value 39 = .ok (.return_, 1) := by decide +kernel
theorem dX10_value_40 : decode cX10_value 40 = .ok (.aload_n 0, 1) := by decide +kernel
theorem dX10_value_41 : decode cX10_value 41 = .ok (.getfield 136, 3) := by decide +kernel
theorem dX10_value_44 : decode cX10_value 44 = .ok (.istore_n 3, 1) := by decide +kernel
theorem dX10_value_45 : decode cX10_value 45 = .ok (.aload_n 0, 1) := by decide +kernel
theorem dX10_value_46 : decode cX10_value 46 = .ok (.invokevirtual 154, 3) := by decide +kernel
theorem dX10_value_49 : decode cX10_value 49 = .ok (.istore 4, 2) := by decide +kernel
theorem dX10_value_51 : decode cX10_value 51 = .ok (.aload_n 0, 1) := by decide +kernel
theorem dX10_value_52 : decode cX10_value 52 = .ok (.getfield 139, 3) := by decide +kernel
theorem dX10_value_55 : decode cX10_value 55 = .ok (.ifCond .ne 22, 3) := by decide +kernel
theorem dX10_value_58 : decode cX10_value 58 = .ok (.iload 4, 2) := by decide +kernel
theorem dX10_value_60 : decode cX10_value 60 = .ok (.aload_n 0, 1) := by decide +kernel
theorem dX10_value_61 : decode cX10_value 61 = .ok (.getfield 75, 3) := by decide +kernel
theorem dX10_value_64 : decode cX10_value 64 = .ok (.if_icmp .lt 13, 3) := by decide +kernel
theorem dX10_value_67 : decode cX10_value 67 = .ok (.aload_n 0, 1) := by decide +kernel
theorem dX10_value_68 : decode cX10_value 68 = .ok (.iload_n 3, 1) := by decide +kernel
theorem dX10_value_69 : decode cX10_value 69 = .ok (.putfield 136, 3) := by decide +kernel
theorem dX10_value_72 : decode cX10_value 72 = .ok (.aload_n 0, 1) := by decide +kernel
theorem dX10_value_73 : decode cX10_value 73 = .ok (.iconst 1, 1) := by decide +kernel
theorem dX10_value_74 : decode cX10_value 74 = .ok (.putfield 139, 3) := by decide +kernel
theorem dX10_value_77 : decode cX10_value 77 = .ok (.aload_n 0, 1) := by decide +kernel
theorem dX10_value_78 : decode cX10_value 78 = .ok (.getfield 28, 3) := by decide +kernel
theorem dX10_value_81 : decode cX10_value 81 = .ok (.iload_n 1, 1) := by decide +kernel
theorem dX10_value_82 : decode cX10_value 82 = .ok (.iconst 4, 1) := by decide +kernel
theorem dX10_value_83 : decode cX10_value 83 = .ok (.iadd, 1) := by decide +kernel
theorem dX10_value_84 : decode cX10_value 84 = .ok (.iconst 0, 1) := by decide +kernel
theorem dX10_value_85 : decode cX10_value 85 = .ok (.iastore, 1) := by decide +kernel
theorem dX10_value_86 : decode cX10_value 86 = .ok (.aload_n 0, 1) := by decide +kernel
theorem dX10_value_87 : decode cX10_value 87 = .ok (.getfield 28, 3) := by decide +kernel
theorem dX10_value_90 : decode cX10_value 90 = .ok (.iload_n 1, 1) := by decide +kernel
theorem dX10_value_91 : decode cX10_value 91 = .ok (.iconst 5, 1) := by decide +kernel
theorem dX10_value_92 : decode cX10_value 92 = .ok (.iadd, 1) := by decide +kernel
theorem dX10_value_93 : decode cX10_value 93 = .ok (.iload 4, 2) := by decide +kernel
theorem dX10_value_95 : decode cX10_value 95 = .ok (.iastore, 1) := by decide +kernel
theorem dX10_value_96 : decode cX10_value 96 = .ok (.return_, 1) := by decide +kernel
theorem dX10_hasCondition_0 : decode cX10_hasCondition 0 = .ok (.aload_n 0, 1) := by decide +kernel
theorem dX10_hasCondition_1 : decode cX10_hasCondition 1 = .ok (.invokevirtual 150, 3) := by decide +kernel
theorem dX10_hasCondition_4 : decode cX10_hasCondition 4 = .ok (.istore_n 1, 1) := by decide +kernel
theorem dX10_hasCondition_5 : decode cX10_hasCondition 5 = .ok (.aload_n 0, 1) := by decide +kernel
theorem dX10_hasCondition_6 : decode cX10_hasCondition 6 = .ok (.dup, 1) := by decide +kernel
theorem dX10_hasCondition_7 : decode cX10_hasCondition 7 = .ok (.getfield 136, 3) := by decide +kernel
theorem dX10_hasCondition_10 : decode cX10_hasCondition 10 = .ok (.iconst 1, 1) := by decide +kernel
theorem dX10_hasCondition_11 : decode cX10_hasCondition 11 = .ok (.iadd, 1) := by decide +kernel
theorem dX10_hasCondition_12 : decode cX10_hasCondition 12 = .ok (.putfield 136, 3) := by decide +kernel
theorem dX10_hasCondition_15 : decode cX10_hasCondition 15 = .ok (.aload_n 0, 1) := by decide +kernel
theorem dX10_hasCondition_16 : decode cX10_hasCondition 16 = .ok (.invokevirtual 157, 3) := by decide +kernel
theorem dX10_hasCondition_19 : decode cX10_hasCondition 19 = .ok (.istore_n 2, 1) := by decide +kernel
theorem dX10_hasCondition_20 : decode cX10_hasCondition 20 = .ok (.aload_n 0, 1) := by decide +kernel
theorem dX10_hasCondition_21 : decode cX10_hasCondition 21 = .ok (.dup, 1) := by decide +kernel
theorem dX10_hasCondition_22 : decode cX10_hasCondition 22 = .ok (.getfield 136, 3) := by decide +kernel
theorem dX10_hasCondition_25 : decode cX10_hasCondition 25 = .ok (.iconst 1, 1) := by decide +kernel
theorem dX10_hasCondition_26 : decode cX10_hasCondition 26 = .ok (.isub, 1) := by decide +kernel
theorem dX10_hasCondition_27 : decode cX10_hasCondition 27 = .ok (.putfield 136, 3) := by decide +kernel
theorem dX10_hasCondition_30 : decode cX10_hasCondition 30 = .ok (.iload_n 1, 1) := by decide +kernel
theorem dX10_hasCondition_31 : decode cX10_hasCondition 31 = .ok (.iconst 1, 1) := by decide +kernel
theorem dX10_hasCondition_32 : decode cX10_hasCondition 32 = .ok (.if_icmp .eq 22, 3) := by decide +kernel
theorem dX10_hasCondition_35 : decode cX10_hasCondition 35 = .ok (.iload_n 1, 1) := by decide +kernel
theorem dX10_hasCondition_36 : decode cX10_hasCondition 36 = .ok (.iconst 4, 1) := by decide +kernel
theorem dX10_hasCondition_37 : decode cX10_hasCondition 37 = .ok (.if_icmp .eq 17, 3) := by decide +kernel
theorem dX10_hasCondition_40 : decode cX10_hasCondition 40 = .ok (.iload_n 1, 1) := by decide +kernel
theorem dX10_hasCondition_41 : decode cX10_hasCondition 41 = .ok (.iconst 2, 1) := by decide +kernel
theorem dX10_hasCondition_42 : decode cX10_hasCondition 42 = .ok (.if_icmp .eq 8, 3) := by decide +kernel
theorem dX10_hasCondition_45 : decode cX10_hasCondition 45 = .ok (.iload_n 1, 1) := by decide +kernel
theorem dX10_hasCondition_46 : decode cX10_hasCondition 46 = .ok (.iconst 3, 1) := by decide +kernel
theorem dX10_hasCondition_47 : decode cX10_hasCondition 47 = .ok (.if_icmp .ne 11, 3) := by decide +kernel
theorem dX10_hasCondition_50 : decode cX10_hasCondition 50 = .ok (.iload_n 2, 1) := by decide +kernel
theorem dX10_hasCondition_51 : decode cX10_hasCondition 51 = .ok (.ifCond .eq 7, 3) := by decide +kernel
theorem dX10_hasCondition_54 : decode cX10_hasCondition 54 = .ok (.iconst 1, 1) := by decide +kernel
theorem dX10_hasCondition_55 : decode cX10_hasCondition 55 = .ok (.goto 4, 3) := by decide +kernel
theorem dX10_hasCondition_58 : decode cX10_hasCondition 58 = .ok (.iconst 0, 1) := by decide +kernel
theorem dX10_hasCondition_59 : decode cX10_hasCondition 59 = .ok (.ireturn, 1) := by decide +kernel
theorem dX10_readRule_0 : decode cX10_readRule 0 = .ok (.bipush 6, 2) := by decide +kernel
theorem dX10_readRule_2 : decode cX10_readRule 2 = .ok (.aload_n 0, 1) := by decide +kernel
theorem dX10_readRule_3 : decode cX10_readRule 3 = .ok (.getfield 160, 3) := by decide +kernel
theorem dX10_readRule_6 : decode cX10_readRule 6 = .ok (.imul, 1) := by decide +kernel
theorem dX10_readRule_7 : decode cX10_readRule 7 = .ok (.istore_n 1, 1) := by decide +kernel
theorem dX10_readRule_8 : decode cX10_readRule 8 = .ok (.aload_n 0, 1) := by decide +kernel
theorem dX10_readRule_9 : decode cX10_readRule 9 = .ok (.getfield 160, 3) := by decide +kernel
theorem dX10_readRule_12 : decode cX10_readRule 12 = .ok (.bipush 20, 2) := by decide +kernel
theorem dX10_readRule_14 : decode cX10_readRule 14 = .ok (.if_icmp .ne 9, 3) := by decide +kernel
theorem dX10_readRule_17 : decode cX10_readRule 17 = .ok (.aload_n 0, 1) := by decide +kernel
theorem dX10_readRule_18 : decode cX10_readRule 18 = .ok (.iconst 1, 1) := by decide +kernel
theorem dX10_readRule_19 : decode cX10_readRule 19 = .ok (.putfield 139, 3) := by decide +kernel
theorem dX10_readRule_22 : decode cX10_readRule 22 = .ok (.return_, 1) := by decide +kernel
theorem dX10_readRule_23 : decode cX10_readRule 23 = .ok (.aload_n 0, 1) := by decide +kernel
theorem dX10_readRule_24 : decode cX10_readRule 24 = .ok (.getfield 28, 3) := by decide +kernel
theorem dX10_readRule_27 : decode cX10_readRule 27 = .ok (.iload_n 1, 1) := by decide +kernel
theorem dX10_readRule_28 : decode cX10_readRule 28 = .ok (.iconst 0, 1) := by decide +kernel
theorem dX10_readRule_29 : decode cX10_readRule 29 = .ok (.iastore, 1) := by decide +kernel
theorem dX10_readRule_30 : decode cX10_readRule 30 = .ok (.aload_n 0, 1) := by decide +kernel
theorem dX10_readRule_31 : decode cX10_readRule 31 = .ok (.invokevirtual 163, 3) := by decide +kernel
theorem dX10_readRule_34 : decode cX10_readRule 34 = .ok (.ifCond .eq 147, 3) := by decide +kernel
theorem dX10_readRule_37 : decode cX10_readRule 37 = .ok (.aload_n 0, 1) := by decide +kernel
theorem dX10_readRule_38 : decode cX10_readRule 38 = .ok (.getfield 28, 3) := by decide +kernel
theorem dX10_readRule_41 : decode cX10_readRule 41 = .ok (.iload_n 1, 1) := by decide +kernel
theorem dX10_readRule_42 : decode cX10_readRule 42 = .ok (.aload_n 0, 1) := by decide +kernel
theorem dX10_readRule_43 : decode cX10_readRule 43 = .ok (.invokevirtual 150, 3) := by decide +kernel
theorem dX10_readRule_46 : decode cX10_readRule 46 = .ok (.iastore, 1) := by decide +kernel
theorem dX10_readRule_47 : decode cX10_readRule 47 = .ok (.aload_n 0, 1) := by decide +kernel
theorem dX10_readRule_48 : decode cX10_readRule 48 = .ok (.dup, 1) := by decide +kernel
theorem dX10_readRule_49 : decode cX10_readRule 49 = .ok (.getfield 136, 3) := by decide +kernel
theorem dX10_readRule_52 : decode cX10_readRule 52 = .ok (.iconst 1, 1) := by decide +kernel
theorem dX10_readRule_53 : decode cX10_readRule 53 = .ok (.iadd, 1) := by decide +kernel
theorem dX10_readRule_54 : decode cX10_readRule 54 = .ok (.putfield 136, 3) := by decide +kernel
theorem dX10_readRule_57 : decode cX10_readRule 57 = .ok (.aload_n 0, 1) := by decide +kernel
theorem dX10_readRule_58 : decode cX10_readRule 58 = .ok (.getfield 28, 3) := by decide +kernel
theorem dX10_readRule_61 : decode cX10_readRule 61 = .ok (.iload_n 1, 1) := by decide +kernel
theorem dX10_readRule_62 : decode cX10_readRule 62 = .ok (.iaload, 1) := by decide +kernel
theorem dX10_readRule_63 : decode cX10_readRule 63 = .ok (.iconst 4, 1) := by decide +kernel
theorem dX10_readRule_64 : decode cX10_readRule 64 = .ok (.if_icmp .ne 15, 3) := by decide +kernel
theorem dX10_readRule_67 : decode cX10_readRule 67 = .ok (.aload_n 0, 1) := by decide +kernel
theorem dX10_readRule_68 : decode cX10_readRule 68 = .ok (.getfield 28, 3) := by decide +kernel
theorem dX10_readRule_71 : decode cX10_readRule 71 = .ok (.iload_n 1, 1) := by decide +kernel
theorem dX10_readRule_72 : decode cX10_readRule 72 = .ok (.iconst 1, 1) := by decide +kernel
theorem dX10_readRule_73 : decode cX10_readRule 73 = .ok (.iadd, 1) := by decide +kernel
theorem dX10_readRule_74 : decode cX10_readRule 74 = .ok (.aload_n 0, 1) := by decide +kernel
theorem dX10_readRule_75 : decode cX10_readRule 75 = .ok (.invokevirtual 154, 3) := by decide +kernel
theorem dX10_readRule_78 : decode cX10_readRule 78 = .ok (.iastore, 1) := by decide +kernel
theorem dX10_readRule_79 : decode cX10_readRule 79 = .ok (.aload_n 0, 1) := by decide +kernel
theorem dX10_readRule_80 : decode cX10_readRule 80 = .ok (.getfield 139, 3) := by decide +kernel
theorem dX10_readRule_83 : decode cX10_readRule 83 = .ok (.ifCond .ne 45, 3) := by decide +kernel
theorem dX10_readRule_86 : decode cX10_readRule 86 = .ok (.aload_n 0, 1) := by decide +kernel
theorem dX10_readRule_87 : decode cX10_readRule 87 = .ok (.invokevirtual 157, 3) := by decide +kernel
theorem dX10_readRule_90 : decode cX10_readRule 90 = .ok (.ifCond .eq 38, 3) := by decide +kernel
theorem dX10_readRule_93 : decode cX10_readRule 93 = .ok (.aload_n 0, 1) := by decide +kernel
theorem dX10_readRule_94 : decode cX10_readRule 94 = .ok (.getfield 28, 3) := by decide +kernel
theorem dX10_readRule_97 : decode cX10_readRule 97 = .ok (.iload_n 1, 1) := by decide +kernel
theorem dX10_readRule_98 : decode cX10_readRule 98 = .ok (.iconst 2, 1) := by decide +kernel
theorem dX10_readRule_99 : decode cX10_readRule 99 = .ok (.iadd, 1) := by decide +kernel
theorem dX10_readRule_100 : decode cX10_readRule 100 = .ok (.aload_n 0, 1) := by decide +kernel
theorem dX10_readRule_101 : decode cX10_readRule 101 = .ok (.getfield 16, 3) := by decide +kernel
theorem dX10_readRule_104 : decode cX10_readRule 104 = .ok (.aload_n 0, 1) := by decide +kernel
theorem dX10_readRule_105 : decode cX10_readRule 105 = .ok (.getfield 19, 3) := by decide +kernel
theorem dX10_readRule_108 : decode cX10_readRule 108 = .ok (.aload_n 0, 1) := by decide +kernel
theorem dX10_readRule_109 : decode cX10_readRule 109 = .ok (.getfield 136, 3) := by decide +kernel
theorem dX10_readRule_112 : decode cX10_readRule 112 = .ok (.iaload, 1) := by decide +kernel
theorem dX10_readRule_113 : decode cX10_readRule 113 = .ok (.iaload, 1) := by decide +kernel
theorem dX10_readRule_114 : decode cX10_readRule 114 = .ok (.iastore, 1) := by decide +kernel
theorem dX10_readRule_115 : decode cX10_readRule 115 = .ok (.aload_n 0, 1) := by decide +kernel
theorem dX10_readRule_116 : decode cX10_readRule 116 = .ok (.dup, 1) := by decide +kernel
theorem dX10_readRule_117 : decode cX10_readRule 117 = .ok (.getfield 136, 3) := by decide +kernel
theorem dX10_readRule_120 : decode cX10_readRule 120 = .ok (.iconst 1, 1) := by decide +kernel
theorem dX10_readRule_121 : decode cX10_readRule 121 = .ok (.iadd, 1) := by decide +kernel
theorem dX10_readRule_122 : decode cX10_readRule 122 = .ok (.putfield 136, 3) := by decide +kernel
theorem dX10_readRule_125 : decode cX10_readRule 125 = .ok (.goto 8, 3) := by decide +kernel
theorem dX10_readRule_128 : decode cX10_readRule 128 = .ok (.aload_n 0, 1) := by decide +kernel
theorem dX10_readRule_129 : decode cX10_readRule 129 = .ok (.iconst 1, 1) := by decide +kernel
theorem dX10_readRule_130 : decode cX10_readRule 130 = .ok (.putfield 139, 3) := by decide +kernel
theorem dX10_readRule_133 : decode cX10_readRule 133 = .ok (.aload_n 0, 1) := by decide +kernel
theorem dX10_readRule_134 : decode cX10_readRule 134 = .ok (.getfield 28, 3) := by decide +kernel
theorem dX10_readRule_137 : decode cX10_readRule 137 = .ok (.iload_n 1, 1) := by decide +kernel
theorem dX10_readRule_138 : decode cX10_readRule 138 = .ok (.iconst 3, 1) := by decide +kernel
theorem dX10_readRule_139 : decode cX10_readRule 139 = .ok (.iadd, 1) := by decide +kernel
theorem dX10_readRule_140 : decode cX10_readRule 140 = .ok (.aload_n 0, 1) := by decide +kernel
theorem dX10_readRule_141 : decode cX10_readRule 141 = .ok (.invokevirtual 154, 3) := by decide +kernel
theorem dX10_readRule_144 : decode cX10_readRule 144 = .ok (.iastore, 1) := by decide +kernel
theorem dX10_readRule_145 : decode cX10_readRule 145 = .ok (.aload_n 0, 1) := by decide +kernel
theorem dX10_readRule_146 : decode cX10_readRule 146 = .ok (.getfield 139, 3) := by decide +kernel
theorem dX10_readRule_149 : decode cX10_readRule 149 = .ok (.ifCond .ne 27, 3) := by decide +kernel
theorem dX10_readRule_152 : decode cX10_readRule 152 = .ok (.aload_n 0, 1) := by decide +kernel
theorem dX10_readRule_153 : decode cX10_readRule 153 = .ok (.bipush 58, 2) := by decide +kernel
theorem dX10_readRule_155 : decode cX10_readRule 155 = .ok (.iconst 0, 1) := by decide +kernel
theorem dX10_readRule_156 : decode cX10_readRule 156 = .ok (.iconst 0, 1) := by decide +kernel
theorem dX10_readRule_157 : decode cX10_readRule 157 = .ok (.invokevirtual 146, 3) := by decide +kernel
theorem dX10_readRule_160 : decode cX10_readRule 160 = .ok (.ifCond .eq 16, 3) := by decide +kernel
theorem dX10_readRule_163 : decode cX10_readRule 163 = .ok (.aload_n 0, 1) := by decide +kernel
theorem dX10_readRule_164 : decode cX10_readRule 164 = .ok (.dup, 1) := by decide +kernel
theorem dX10_readRule_165 : decode cX10_readRule 165 = .ok (.getfield 136, 3) := by decide +kernel
theorem dX10_readRule_168 : decode cX10_readRule 168 = .ok (.iconst 1, 1) := by decide +kernel
theorem dX10_readRule_169 : decode cX10_readRule 169 = .ok (.iadd, 1) := by decide +kernel
theorem dX10_readRule_170 : decode cX10_readRule 170 = .ok (.putfield 136, 3) := by decide +kernel
theorem dX10_readRule_173 : decode cX10_readRule 173 = .ok (.goto 8, 3) := by decide +kernel
theorem dX10_readRule_176 : decode cX10_readRule 176 = .ok (.aload_n 0, 1) := by decide +kernel
theorem dX10_readRule_177 : decode cX10_readRule 177 = .ok (.iconst 1, 1) := by decide +kernel
theorem dX10_readRule_178 : decode cX10_readRule 178 = .ok (.putfield 139, 3) := by decide +kernel
theorem dX10_readRule_181 : decode cX10_readRule 181 = .ok (.aload_n 0, 1) := by decide +kernel
theorem dX10_readRule_182 : decode cX10_readRule 182 = .ok (.getfield 139, 3) := by decide +kernel
theorem dX10_readRule_185 : decode cX10_readRule 185 = .ok (.ifCond .ne 8, 3) := by decide +kernel
theorem dX10_readRule_188 : decode cX10_readRule 188 = .ok (.aload_n 0, 1) := by decide +kernel
theorem dX10_readRule_189 : decode cX10_readRule 189 = .ok (.iload_n 1, 1) := by decide +kernel
theorem dX10_readRule_190 : decode cX10_readRule 190 = .ok (.invokevirtual 166, 3) := by decide +kernel
theorem dX10_readRule_193 : decode cX10_readRule 193 = .ok (.aload_n 0, 1) := by decide +kernel
theorem dX10_readRule_194 : decode cX10_readRule 194 = .ok (.dup, 1) := by decide +kernel
theorem dX10_readRule_195 : decode cX10_readRule 195 = .ok (.getfield 160, 3) := by decide +kernel
theorem dX10_readRule_198 : decode cX10_readRule 198 = .ok (.iconst 1, 1) := by decide +kernel
theorem dX10_readRule_199 : decode cX10_readRule 199 = .ok (.iadd, 1) := by decide +kernel
theorem dX10_readRule_200 : decode cX10_readRule 200 = .ok (.putfield 160, 3) := by decide +kernel
theorem dX10_readRule_203 : decode cX10_readRule 203 = .ok (.return_, 1) := by decide +kernel
theorem dX10_grade_0 : decode cX10_grade 0 = .ok (.aload_n 0, 1) := by decide +kernel
theorem dX10_grade_1 : decode cX10_grade 1 = .ok (.iconst 0, 1) := by decide +kernel
theorem dX10_grade_2 : decode cX10_grade 2 = .ok (.putfield 91, 3) := by decide +kernel
theorem dX10_grade_5 : decode cX10_grade 5 = .ok (.aload_n 0, 1) := by decide +kernel
theorem dX10_grade_6 : decode cX10_grade 6 = .ok (.invokevirtual 170, 3) := by decide +kernel
theorem dX10_grade_9 : decode cX10_grade 9 = .ok (.aload_n 0, 1) := by decide +kernel
theorem dX10_grade_10 : decode cX10_grade 10 = .ok (.iconst 0, 1) := by decide +kernel
theorem dX10_grade_11 : decode cX10_grade 11 = .ok (.putfield 136, 3) := by decide +kernel
theorem dX10_grade_14 : decode cX10_grade 14 = .ok (.aload_n 0, 1) := by decide +kernel
theorem dX10_grade_15 : decode cX10_grade 15 = .ok (.iconst 0, 1) := by decide +kernel
theorem dX10_grade_16 : decode cX10_grade 16 = .ok (.putfield 139, 3) := by decide +kernel
theorem dX10_grade_19 : decode cX10_grade 19 = .ok (.aload_n 0, 1) := by decide +kernel
theorem dX10_grade_20 : decode cX10_grade 20 = .ok (.iconst 0, 1) := by decide +kernel
theorem dX10_grade_21 : decode cX10_grade 21 = .ok (.putfield 160, 3) := by decide +kernel
theorem dX10_grade_24 : decode cX10_grade 24 = .ok (.iconst 1, 1) := by decide +kernel
theorem dX10_grade_25 : decode cX10_grade 25 = .ok (.istore_n 1, 1) := by decide +kernel
theorem dX10_grade_26 : decode cX10_grade 26 = .ok (.iload_n 1, 1) := by decide +kernel
theorem dX10_grade_27 : decode cX10_grade 27 = .ok (.ifCond .eq 74, 3) := by decide +kernel
theorem dX10_grade_30 : decode cX10_grade 30 = .ok (.aload_n 0, 1) := by decide +kernel
theorem dX10_grade_31 : decode cX10_grade 31 = .ok (.invokevirtual 173, 3) := by decide +kernel
theorem dX10_grade_34 : decode cX10_grade 34 = .ok (.aload_n 0, 1) := by decide +kernel
theorem dX10_grade_35 : decode cX10_grade 35 = .ok (.getfield 139, 3) := by decide +kernel
theorem dX10_grade_38 : decode cX10_grade 38 = .ok (.ifCond .ne 18, 3) := by decide +kernel
theorem dX10_grade_41 : decode cX10_grade 41 = .ok (.aload_n 0, 1) := by decide +kernel
theorem dX10_grade_42 : decode cX10_grade 42 = .ok (.bipush 59, 2) := by decide +kernel
theorem dX10_grade_44 : decode cX10_grade 44 = .ok (.iconst 0, 1) := by decide +kernel
theorem dX10_grade_45 : decode cX10_grade 45 = .ok (.iconst 0, 1) := by decide +kernel
theorem dX10_grade_46 : decode cX10_grade 46 = .ok (.invokevirtual 146, 3) := by decide +kernel
theorem dX10_grade_49 : decode cX10_grade 49 = .ok (.ifCond .eq 7, 3) := by decide +kernel
theorem dX10_grade_52 : decode cX10_grade 52 = .ok (.iconst 1, 1) := by decide +kernel
theorem dX10_grade_53 : decode cX10_grade 53 = .ok (.goto 4, 3) := by decide +kernel
theorem dX10_grade_56 : decode cX10_grade 56 = .ok (.iconst 0, 1) := by decide +kernel
theorem dX10_grade_57 : decode cX10_grade 57 = .ok (.istore_n 1, 1) := by decide +kernel
theorem dX10_grade_58 : decode cX10_grade 58 = .ok (.iload_n 1, 1) := by decide +kernel
theorem dX10_grade_59 : decode cX10_grade 59 = .ok (.ifCond .eq 16, 3) := by decide +kernel
theorem dX10_grade_62 : decode cX10_grade 62 = .ok (.aload_n 0, 1) := by decide +kernel
theorem dX10_grade_63 : decode cX10_grade 63 = .ok (.dup, 1) := by decide +kernel
theorem dX10_grade_64 : decode cX10_grade 64 = .ok (.getfield 136, 3) := by decide +kernel
theorem dX10_grade_67 : decode cX10_grade 67 = .ok (.iconst 1, 1) := by decide +kernel
theorem dX10_grade_68 : decode cX10_grade 68 = .ok (.iadd, 1) := by decide +kernel
theorem dX10_grade_69 : decode cX10_grade 69 = .ok (.putfield 136, 3) := by decide +kernel
theorem dX10_grade_72 : decode cX10_grade 72 = .ok (.goto (-46), 3) := by decide +kernel
theorem dX10_grade_75 : decode cX10_grade 75 = .ok (.aload_n 0, 1) := by decide +kernel
theorem dX10_grade_76 : decode cX10_grade 76 = .ok (.getfield 139, 3) := by decide +kernel
theorem dX10_grade_79 : decode cX10_grade 79 = .ok (.ifCond .ne (-53), 3) := by decide +kernel
theorem dX10_grade_82 : decode cX10_grade 82 = .ok (.aload_n 0, 1) := by decide +kernel
theorem dX10_grade_83 : decode cX10_grade 83 = .ok (.getfield 136, 3) := by decide +kernel
theorem dX10_grade_86 : decode cX10_grade 86 = .ok (.aload_n 0, 1) := by decide +kernel
theorem dX10_grade_87 : decode cX10_grade 87 = .ok (.getfield 127, 3) := by decide +kernel
theorem dX10_grade_90 : decode cX10_grade 90 = .ok (.if_icmp .ge (-64), 3) := by decide +kernel
theorem dX10_grade_93 : decode cX10_grade 93 = .ok (.aload_n 0, 1) := by decide +kernel
theorem dX10_grade_94 : decode cX10_grade 94 = .ok (.iconst 1, 1) := by decide +kernel
theorem dX10_grade_95 : decode cX10_grade 95 = .ok (.putfield 139, 3) := by decide +kernel
theorem dX10_grade_98 : decode cX10_grade 98 = .ok (.goto (-72), 3) := by decide +kernel
theorem dX10_grade_101 : decode cX10_grade 101 = .ok (.aload_n 0, 1) := by decide +kernel
theorem dX10_grade_102 : decode cX10_grade 102 = .ok (.iconst 0, 1) := by decide +kernel
theorem dX10_grade_103 : decode cX10_grade 103 = .ok (.putfield 124, 3) := by decide +kernel
theorem dX10_grade_106 : decode cX10_grade 106 = .ok (.aload_n 0, 1) := by decide +kernel
theorem dX10_grade_107 : decode cX10_grade 107 = .ok (.getfield 139, 3) := by decide +kernel
theorem dX10_grade_110 : decode cX10_grade 110 = .ok (.ifCond .eq 10, 3) := by decide +kernel
theorem dX10_grade_113 : decode cX10_grade 113 = .ok (.iconst (-1), 1) := by decide +kernel
theorem dX10_grade_114 : decode cX10_grade 114 = .ok (.aload_n 0, 1) := by decide +kernel
theorem dX10_grade_115 : decode cX10_grade 115 = .ok (.getfield 136, 3) := by decide +kernel
theorem dX10_grade_118 : decode cX10_grade 118 = .ok (.isub, 1) := by decide +kernel
theorem dX10_grade_119 : decode cX10_grade 119 = .ok (.ireturn, 1) := by decide +kernel
theorem dX10_grade_120 : decode cX10_grade 120 = .ok (.aload_n 0, 1) := by decide +kernel
theorem dX10_grade_121 : decode cX10_grade 121 = .ok (.aload_n 0, 1) := by decide +kernel
theorem dX10_grade_122 : decode cX10_grade 122 = .ok (.getfield 160, 3) := by decide +kernel
theorem dX10_grade_125 : decode cX10_grade 125 = .ok (.putfield 79, 3) := by decide +kernel
theorem dX10_grade_128 : decode cX10_grade 128 = .ok (.iconst 0, 1) := by decide +kernel
theorem dX10_grade_129 : decode cX10_grade 129 = .ok (.istore_n 2, 1) := by decide +kernel
theorem dX10_grade_130 : decode cX10_grade 130 = .ok (.iload_n 2, 1) := by decide +kernel
theorem dX10_grade_131 : decode cX10_grade 131 = .ok (.bipush 6, 2) := by decide +kernel
theorem dX10_grade_133 : decode cX10_grade 133 = .ok (.aload_n 0, 1) := by decide +kernel
theorem dX10_grade_134 : decode cX10_grade 134 = .ok (.getfield 79, 3) := by decide +kernel
theorem dX10_grade_137 : decode cX10_grade 137 = .ok (.imul, 1) := by decide +kernel
theorem dX10_grade_138 : decode cX10_grade 138 = .ok (.if_icmp .ge 21, 3) := by decide +kernel
theorem dX10_grade_141 : decode cX10_grade 141 = .ok (.aload_n 0, 1) := by decide +kernel
theorem dX10_grade_142 : decode cX10_grade 142 = .ok (.getfield 25, 3) := by decide +kernel
theorem dX10_grade_145 : decode cX10_grade 145 = .ok (.iload_n 2, 1) := by decide +kernel
theorem dX10_grade_146 : decode cX10_grade 146 = .ok (.aload_n 0, 1) := by decide +kernel
theorem dX10_grade_147 : decode cX10_grade 147 = .ok (.getfield 28, 3) := by decide +kernel
theorem dX10_grade_150 : decode cX10_grade 150 = .ok (.iload_n 2, 1) := by decide +kernel
theorem dX10_grade_151 : decode cX10_grade 151 = .ok (.iaload, 1) := by decide +kernel
theorem dX10_grade_152 : decode cX10_grade 152 = .ok (.iastore, 1) := by decide +kernel
theorem dX10_grade_153 : decode cX10_grade 153 = .ok (.iinc 2 1, 3) := by decide +kernel
theorem dX10_grade_156 : decode cX10_grade 156 = .ok (.goto (-26), 3) := by decide +kernel
theorem dX10_grade_159 : decode cX10_grade 159 = .ok (.aload_n 0, 1) := by decide +kernel
theorem dX10_grade_160 : decode cX10_grade 160 = .ok (.iconst 0, 1) := by decide +kernel
theorem dX10_grade_161 : decode cX10_grade 161 = .ok (.putfield 116, 3) := by decide +kernel
theorem dX10_grade_164 : decode cX10_grade 164 = .ok (.aload_n 0, 1) := by decide +kernel
theorem dX10_grade_165 : decode cX10_grade 165 = .ok (.getfield 79, 3) := by decide +kernel
theorem dX10_grade_168 : decode cX10_grade 168 = .ok (.ireturn, 1) := by decide +kernel
set_option maxRecDepth 20000 in
theorem v_X10_thrown_0 {g : xG} {Q : mQ} {s : MV} {x0 : Nat} (V : (Q (some (.int (nI s.cd))) s)) : BlkM g M_X10_thrown x0 Q 0 [(0, .ref x0)] [] s := by
  intro h0 h nx HO HM
  refine r_aload_n 0 dX10_thrown_0 rfl rfl ?_
  refine r_getf (ci := 11) (kf := 0) (T := TX10) rfl in_X10 (by decide) wF_X10_91 dX10_thrown_1 (MAt.o_ HM) rfl ?_
  exact r_iret dX10_thrown_4 rfl (by decide) (by decide) ⟨rfl, HO, _, HM, V⟩
set_option maxRecDepth 20000 in
theorem v_X10_in_0 {g : xG} {Q : pQ} {x0 : Int64} {x2 : Int64} {x4 : Int64} (V : ((x0 < x2 → (Q (some (.int (nI 0))))) ∧ (¬ x0 < x2 → ((x4 < x0 → (Q (some (.int (nI 0))))) ∧ (¬ x4 < x0 → (Q (some (.int (nI 1))))))))) : BlkP g M_X10_in Q 0 [(0, .long x0), (2, .long x2), (4, .long x4)] [] := by
  intro h nx
  refine r_lload_n 0 dX10_in_0 rfl rfl ?_
  refine r_lload_n 1 dX10_in_1 rfl rfl ?_
  refine r_lcmp dX10_in_2 ?_
  refine r_if_lt (tgt := 17) dX10_in_3 (by decide) (fun c => ?_) (fun c => ?_)
  · have V := V.1 ((lg_cmp_lt _ _).mp c)
    refine r_iconst (v := (nI 0)) dX10_in_17 rfl ?_
    exact r_zret (ty := .boolean) dX10_in_18 rfl rfl (by decide) (by decide) ⟨rfl, rfl, V⟩
  · have V := V.2 (fun q => c ((lg_cmp_lt _ _).mpr q))
    refine r_lload_n 0 dX10_in_6 rfl rfl ?_
    refine r_lload 2 dX10_in_7 rfl ?_
    refine r_lcmp dX10_in_9 ?_
    refine r_if_gt (tgt := 17) dX10_in_10 (by decide) (fun c => ?_) (fun c => ?_)
    · have V := V.1 ((lg_cmp_gt _ _).mp c)
      refine r_iconst (v := (nI 0)) dX10_in_17 rfl ?_
      exact r_zret (ty := .boolean) dX10_in_18 rfl rfl (by decide) (by decide) ⟨rfl, rfl, V⟩
    · have V := V.2 (fun q => c ((lg_cmp_gt _ _).mpr q))
      refine r_iconst (v := (nI 1)) dX10_in_13 rfl ?_
      refine r_goto (tgt := 18) dX10_in_14 (by decide) ?_
      exact r_zret (ty := .boolean) dX10_in_18 rfl rfl (by decide) (by decide) ⟨rfl, rfl, V⟩
set_option maxRecDepth 20000 in
theorem v_X10_isState_0 {g : xG} {Q : mQ} {s : MV} {x0 : Nat} {x1 : Int32} (V : (1 ≤ s.n ∧ ((s.n - 1) < 2 ^ 31 ∧ (CtP g M_X10_in [.long (x1.toInt64), .long (lN 0), .long (lN (s.n - 1))] (fun r => ∃ v3 : Nat, r = some (.int (nI v3)) ∧ (v3 ≤ 1 ∧ Q (some (.int (nI v3))) s)))))) : BlkM g M_X10_isState x0 Q 0 [(0, .ref x0), (1, .int x1)] [] s := by
  intro h0 h nx HO HM
  refine r_iload_n 1 dX10_isState_0 rfl rfl ?_
  refine r_i2l dX10_isState_1 ?_
  refine r_lconst (v := (lN 0)) dX10_isState_2 rfl ?_
  refine r_aload_n 0 dX10_isState_3 rfl rfl ?_
  refine r_getf (ci := 11) (kf := 1) (T := TX10) rfl in_X10 (by decide) wF_X10_75 dX10_isState_4 (MAt.o_ HM) rfl ?_
  refine r_iconst (v := (nI 1)) dX10_isState_7 rfl ?_
  obtain ⟨c, V⟩ := V
  refine r_isubN dX10_isState_8 c ?_
  obtain ⟨c, V⟩ := V
  refine r_i2lN dX10_isState_9 c ?_
  refine r_callS (M2 := M_X10_in) (n := 3) (As := [.long (x1.toInt64), .long (lN 0), .long (lN (s.n - 1))]) (wl4 wM_X10_94 ws_X10_in wI_StateSharesModel wc_X10_in) (by decide +kernel) (by decide) rfl rfl (Nat.le_of_ble_eq_true rfl) dX10_isState_10 (by decide) (by decide) (Ct.imp (V _ _) (fun r h1 n2 V => ?_))
  obtain ⟨rfl, rfl, V⟩ := V
  obtain ⟨v3, rfl, V⟩ := V
  show Blk g M_X10_isState (pM x0 h0 nx Q) 13 [(0, .ref x0), (1, .int x1)] [.int (nI v3)] h nx 0 0
  obtain ⟨c, V⟩ := V
  exact r_zret (ty := .boolean) dX10_isState_13 rfl (n_bool c) (by decide) (by decide) ⟨rfl, HO, _, HM, V⟩
set_option maxRecDepth 20000 in
theorem v_X10_isPlace_0 {g : xG} {Q : mQ} {s : MV} {x0 : Nat} {x1 : Int32} {x2 : Int32} (V : (CtP g M_X10_in [.long (x1.toInt64), .long (lN 0), .long (lN 9)] (fun r => ∃ v3 : Nat, r = some (.int (nI v3)) ∧ (v3 < 2 ^ 31 ∧ ((v3 = 0 → (Q (some (.int (nI 0))) s)) ∧ (¬ v3 = 0 → (CtP g M_X10_in [.long (x2.toInt64), .long (lN 0), .long (lN 11)] (fun r => ∃ v6 : Nat, r = some (.int (nI v6)) ∧ (v6 < 2 ^ 31 ∧ ((v6 = 0 → (Q (some (.int (nI 0))) s)) ∧ (¬ v6 = 0 → (Q (some (.int (nI 1))) s)))))))))))) : BlkM g M_X10_isPlace x0 Q 0 [(0, .ref x0), (1, .int x1), (2, .int x2)] [] s := by
  intro h0 h nx HO HM
  refine r_iload_n 1 dX10_isPlace_0 rfl rfl ?_
  refine r_i2l dX10_isPlace_1 ?_
  refine r_lconst (v := (lN 0)) dX10_isPlace_2 rfl ?_
  refine r_ldc2 (v := (lN 9)) wL_X10_98 dX10_isPlace_3 ?_
  refine r_callS (M2 := M_X10_in) (n := 3) (As := [.long (x1.toInt64), .long (lN 0), .long (lN 9)]) (wl4 wM_X10_94 ws_X10_in wI_StateSharesModel wc_X10_in) (by decide +kernel) (by decide) rfl rfl (Nat.le_of_ble_eq_true rfl) dX10_isPlace_6 (by decide) (by decide) (Ct.imp (V _ _) (fun r h1 n2 V => ?_))
  obtain ⟨rfl, rfl, V⟩ := V
  obtain ⟨v3, rfl, V⟩ := V
  show Blk g M_X10_isPlace (pM x0 h0 nx Q) 9 [(0, .ref x0), (1, .int x1), (2, .int x2)] [.int (nI v3)] h nx 0 0
  obtain ⟨c, V⟩ := V
  refine r_if_eqN (tgt := 28) dX10_isPlace_9 (by decide) c (fun c => ?_) (fun c => ?_)
  · have V := V.1 c
    refine r_iconst (v := (nI 0)) dX10_isPlace_28 rfl ?_
    exact r_zret (ty := .boolean) dX10_isPlace_29 rfl rfl (by decide) (by decide) ⟨rfl, HO, _, HM, V⟩
  · have V := V.2 c
    refine r_iload_n 2 dX10_isPlace_12 rfl rfl ?_
    refine r_i2l dX10_isPlace_13 ?_
    refine r_lconst (v := (lN 0)) dX10_isPlace_14 rfl ?_
    refine r_ldc2 (v := (lN 11)) wL_X10_100 dX10_isPlace_15 ?_
    refine r_callS (M2 := M_X10_in) (n := 3) (As := [.long (x2.toInt64), .long (lN 0), .long (lN 11)]) (wl4 wM_X10_94 ws_X10_in wI_StateSharesModel wc_X10_in) (by decide +kernel) (by decide) rfl rfl (Nat.le_of_ble_eq_true rfl) dX10_isPlace_18 (by decide) (by decide) (Ct.imp (V _ _) (fun r h4 n5 V => ?_))
    obtain ⟨rfl, rfl, V⟩ := V
    obtain ⟨v6, rfl, V⟩ := V
    show Blk g M_X10_isPlace (pM x0 h0 nx Q) 21 [(0, .ref x0), (1, .int x1), (2, .int x2)] [.int (nI v6)] h nx 0 0
    obtain ⟨c, V⟩ := V
    refine r_if_eqN (tgt := 28) dX10_isPlace_21 (by decide) c (fun c => ?_) (fun c => ?_)
    · have V := V.1 c
      refine r_iconst (v := (nI 0)) dX10_isPlace_28 rfl ?_
      exact r_zret (ty := .boolean) dX10_isPlace_29 rfl rfl (by decide) (by decide) ⟨rfl, HO, _, HM, V⟩
    · have V := V.2 c
      refine r_iconst (v := (nI 1)) dX10_isPlace_24 rfl ?_
      refine r_goto (tgt := 29) dX10_isPlace_25 (by decide) ?_
      exact r_zret (ty := .boolean) dX10_isPlace_29 rfl rfl (by decide) (by decide) ⟨rfl, HO, _, HM, V⟩
set_option maxRecDepth 20000 in
theorem v_X10_spot_0 {g : xG} {Q : pQ} {x0 : Nat} {x1 : Nat} {x2 : Nat} (V : (Q (some (.int (nI ((4 * ((12 * x0) + x1)) + x2)))))) : BlkP g M_X10_spot Q 0 [(0, .int (nI x0)), (1, .int (nI x1)), (2, .int (nI x2))] [] := by
  intro h nx
  refine r_iconst (v := (nI 4)) dX10_spot_0 rfl ?_
  refine r_bipush (v := (nI 12)) dX10_spot_1 rfl ?_
  refine r_iload_n 0 dX10_spot_3 rfl rfl ?_
  refine r_imulN dX10_spot_4 ?_
  refine r_iload_n 1 dX10_spot_5 rfl rfl ?_
  refine r_iaddN dX10_spot_6 ?_
  refine r_imulN dX10_spot_7 ?_
  refine r_iload_n 2 dX10_spot_8 rfl rfl ?_
  refine r_iaddN dX10_spot_9 ?_
  exact r_iret dX10_spot_10 rfl (by decide) (by decide) ⟨rfl, rfl, V⟩
set_option maxRecDepth 20000 in
theorem v_X10_mark_0 {g : xG} {Q : mQ} {s : MV} {x0 : Nat} {x1 : Int32} {x2 : Int32} {x3 : Int32} {x4 : Int32} (V : (CtM g M_X10_isPlace [.ref x0, .int x1, .int x2] x0 (MV.u_cd s 0) (fun r s4 => ∃ v5 : Nat, r = some (.int (nI v5)) ∧ (v5 < 2 ^ 31 ∧ ((v5 = 0 → (Q (some (.int (nI 0))) s4)) ∧ (¬ v5 = 0 → (CtP g M_X10_in [.long (x3.toInt64), .long (lN 0), .long (lN 3)] (fun r => ∃ v8 : Nat, r = some (.int (nI v8)) ∧ (v8 < 2 ^ 31 ∧ ((¬ v8 = 0 → (CtM g M_X10_isState [.ref x0, .int x4] x0 s4 (fun r s11 => ∃ v12 : Nat, r = some (.int (nI v12)) ∧ (v12 < 2 ^ 31 ∧ ((v12 = 0 → (Q (some (.int (nI 0))) (MV.u_cd s11 1))) ∧ (¬ v12 = 0 → (CtP g M_X10_spot [.int x1, .int x2, .int x3] (fun r => ∃ v17 : Nat, r = some (.int (nI v17)) ∧ (v17 < 480 ∧ (Q (some (.int (nI 1))) (MV.u_fr (MV.u_mk (MV.u_cd s11 0) (va_up s11.mk v17 x4)) 0))))))))))) ∧ (v8 = 0 → (Q (some (.int (nI 0))) s4)))))))))))) : BlkM g M_X10_mark x0 Q 0 [(0, .ref x0), (1, .int x1), (2, .int x2), (3, .int x3), (4, .int x4)] [] s := by
  intro h0 h nx HO HM
  refine r_aload_n 0 dX10_mark_0 rfl rfl ?_
  refine r_iconst (v := (nI 0)) dX10_mark_1 rfl ?_
  refine r_putf (ci := 11) (kf := 0) (T := TX10) rfl in_X10 tyX10_ok nmX10 (by decide) wF_X10_91 rfl (tyX10_ok 0 (by decide)) dX10_mark_2 (MAt.o_ HM) (Nat.le_of_ble_eq_true rfl) rfl rfl ?_
  obtain ⟨hu1, eu1, HMu1, HOu1⟩ := mo_o HM HO 0 s.n s.sz s.wn s.at_ s.wr s.ru s.dn s.lm s.st s.fr s.up
  refine Blk.eqs ?_ rfl rfl eu1
  replace HMu1 : MAt hu1 x0 (MV.u_cd s 0) := HMu1
  show Blk g M_X10_mark (pM x0 h0 nx Q) 5 [(0, .ref x0), (1, .int x1), (2, .int x2), (3, .int x3), (4, .int x4)] [] hu1 nx 0 0
  refine r_aload_n 0 dX10_mark_5 rfl rfl ?_
  refine r_iload_n 1 dX10_mark_6 rfl rfl ?_
  refine r_iload_n 2 dX10_mark_7 rfl rfl ?_
  refine r_callV (M2 := M_X10_isPlace) (ci := 11) (n := 2) (As := [.int x1, .int x2]) rfl (wl5 wM_X10_102 wi_X10_isPlace wS_X10_isPlace wI_StateSharesModel wc_X10_isPlace) (by decide +kernel) (by decide) rfl rfl (Nat.le_of_ble_eq_true rfl) dX10_mark_8 (MAt.o_ HMu1) (by decide) (by decide) (Ct.imp (V _ _ HMu1) (fun r h2 n3 V => ?_))
  obtain ⟨rfl, Oh2, s4, HMh2, V⟩ := V
  have HOh2 := Off.tr HOu1 Oh2
  obtain ⟨v5, rfl, V⟩ := V
  show Blk g M_X10_mark (pM x0 h0 nx Q) 11 [(0, .ref x0), (1, .int x1), (2, .int x2), (3, .int x3), (4, .int x4)] [.int (nI v5)] h2 nx 0 0
  obtain ⟨c, V⟩ := V
  refine r_if_eqN (tgt := 26) dX10_mark_11 (by decide) c (fun c => ?_) (fun c => ?_)
  · have V := V.1 c
    refine r_iconst (v := (nI 0)) dX10_mark_26 rfl ?_
    exact r_zret (ty := .boolean) dX10_mark_27 rfl rfl (by decide) (by decide) ⟨rfl, HOh2, _, HMh2, V⟩
  · have V := V.2 c
    refine r_iload_n 3 dX10_mark_14 rfl rfl ?_
    refine r_i2l dX10_mark_15 ?_
    refine r_lconst (v := (lN 0)) dX10_mark_16 rfl ?_
    refine r_ldc2 (v := (lN 3)) wL_X10_106 dX10_mark_17 ?_
    refine r_callS (M2 := M_X10_in) (n := 3) (As := [.long (x3.toInt64), .long (lN 0), .long (lN 3)]) (wl4 wM_X10_94 ws_X10_in wI_StateSharesModel wc_X10_in) (by decide +kernel) (by decide) rfl rfl (Nat.le_of_ble_eq_true rfl) dX10_mark_20 (by decide) (by decide) (Ct.imp (V _ _) (fun r h6 n7 V => ?_))
    obtain ⟨rfl, rfl, V⟩ := V
    obtain ⟨v8, rfl, V⟩ := V
    show Blk g M_X10_mark (pM x0 h0 nx Q) 23 [(0, .ref x0), (1, .int x1), (2, .int x2), (3, .int x3), (4, .int x4)] [.int (nI v8)] h2 nx 0 0
    obtain ⟨c, V⟩ := V
    refine r_if_neN (tgt := 28) dX10_mark_23 (by decide) c (fun c => ?_) (fun c => ?_)
    · have V := V.1 c
      refine r_aload_n 0 dX10_mark_28 rfl rfl ?_
      refine r_aload_n 0 dX10_mark_29 rfl rfl ?_
      refine r_iload 4 dX10_mark_30 rfl ?_
      refine r_callV (M2 := M_X10_isState) (ci := 11) (n := 1) (As := [.int x4]) rfl (wl5 wM_X10_108 wi_X10_isState wS_X10_isState wI_StateSharesModel wc_X10_isState) (by decide +kernel) (by decide) rfl rfl (Nat.le_of_ble_eq_true rfl) dX10_mark_32 (MAt.o_ HMh2) (by decide) (by decide) (Ct.imp (V _ _ HMh2) (fun r h9 n10 V => ?_))
      obtain ⟨rfl, Oh9, s11, HMh9, V⟩ := V
      have HOh9 := Off.tr HOh2 Oh9
      obtain ⟨v12, rfl, V⟩ := V
      show Blk g M_X10_mark (pM x0 h0 nx Q) 35 [(0, .ref x0), (1, .int x1), (2, .int x2), (3, .int x3), (4, .int x4)] [.int (nI v12), .ref x0] h9 nx 0 0
      obtain ⟨c, V⟩ := V
      refine r_if_eqN (tgt := 42) dX10_mark_35 (by decide) c (fun c => ?_) (fun c => ?_)
      · have V := V.1 c
        refine r_iconst (v := (nI 1)) dX10_mark_42 rfl ?_
        refine r_putf (ci := 11) (kf := 0) (T := TX10) rfl in_X10 tyX10_ok nmX10 (by decide) wF_X10_91 rfl (tyX10_ok 0 (by decide)) dX10_mark_43 (MAt.o_ HMh9) (Nat.le_of_ble_eq_true rfl) rfl rfl ?_
        obtain ⟨hu13, eu13, HMu13, HOu13⟩ := mo_o HMh9 HOh9 1 s11.n s11.sz s11.wn s11.at_ s11.wr s11.ru s11.dn s11.lm s11.st s11.fr s11.up
        refine Blk.eqs ?_ rfl rfl eu13
        replace HMu13 : MAt hu13 x0 (MV.u_cd s11 1) := HMu13
        show Blk g M_X10_mark (pM x0 h0 nx Q) 46 [(0, .ref x0), (1, .int x1), (2, .int x2), (3, .int x3), (4, .int x4)] [] hu13 nx 0 0
        refine r_aload_n 0 dX10_mark_46 rfl rfl ?_
        refine r_getf (ci := 11) (kf := 0) (T := TX10) rfl in_X10 (by decide) wF_X10_91 dX10_mark_47 (MAt.o_ HMu13) rfl ?_
        show Blk g M_X10_mark (pM x0 h0 nx Q) 50 [(0, .ref x0), (1, .int x1), (2, .int x2), (3, .int x3), (4, .int x4)] [.int (nI 1)] hu13 nx 0 0
        refine r_if_leN (tgt := 55) dX10_mark_50 (by decide) (by decide) (fun c => absurd c (by decide)) (fun _ => ?_)
        refine r_iconst (v := (nI 0)) dX10_mark_53 rfl ?_
        exact r_zret (ty := .boolean) dX10_mark_54 rfl rfl (by decide) (by decide) ⟨rfl, HOu13, _, HMu13, V⟩
      · have V := V.2 c
        refine r_iconst (v := (nI 0)) dX10_mark_38 rfl ?_
        refine r_goto (tgt := 43) dX10_mark_39 (by decide) ?_
        refine r_putf (ci := 11) (kf := 0) (T := TX10) rfl in_X10 tyX10_ok nmX10 (by decide) wF_X10_91 rfl (tyX10_ok 0 (by decide)) dX10_mark_43 (MAt.o_ HMh9) (Nat.le_of_ble_eq_true rfl) rfl rfl ?_
        obtain ⟨hu14, eu14, HMu14, HOu14⟩ := mo_o HMh9 HOh9 0 s11.n s11.sz s11.wn s11.at_ s11.wr s11.ru s11.dn s11.lm s11.st s11.fr s11.up
        refine Blk.eqs ?_ rfl rfl eu14
        replace HMu14 : MAt hu14 x0 (MV.u_cd s11 0) := HMu14
        show Blk g M_X10_mark (pM x0 h0 nx Q) 46 [(0, .ref x0), (1, .int x1), (2, .int x2), (3, .int x3), (4, .int x4)] [] hu14 nx 0 0
        refine r_aload_n 0 dX10_mark_46 rfl rfl ?_
        refine r_getf (ci := 11) (kf := 0) (T := TX10) rfl in_X10 (by decide) wF_X10_91 dX10_mark_47 (MAt.o_ HMu14) rfl ?_
        show Blk g M_X10_mark (pM x0 h0 nx Q) 50 [(0, .ref x0), (1, .int x1), (2, .int x2), (3, .int x3), (4, .int x4)] [.int (nI 0)] hu14 nx 0 0
        refine r_if_leN (tgt := 55) dX10_mark_50 (by decide) (by decide) (fun _ => ?_) (fun c => absurd c (by decide))
        refine r_aload_n 0 dX10_mark_55 rfl rfl ?_
        refine r_getf (ci := 11) (kf := 2) (T := TX10) rfl in_X10 (by decide) wF_X10_7 dX10_mark_56 (MAt.o_ HMu14) rfl ?_
        show Blk g M_X10_mark (pM x0 h0 nx Q) 59 [(0, .ref x0), (1, .int x1), (2, .int x2), (3, .int x3), (4, .int x4)] [.ref (x0 + 1)] hu14 nx 0 0
        refine r_iload_n 1 dX10_mark_59 rfl rfl ?_
        refine r_iload_n 2 dX10_mark_60 rfl rfl ?_
        refine r_iload_n 3 dX10_mark_61 rfl rfl ?_
        refine r_callS (M2 := M_X10_spot) (n := 3) (As := [.int x1, .int x2, .int x3]) (wl4 wM_X10_112 ws_X10_spot wI_StateSharesModel wc_X10_spot) (by decide +kernel) (by decide) rfl rfl (Nat.le_of_ble_eq_true rfl) dX10_mark_62 (by decide) (by decide) (Ct.imp (V _ _) (fun r h15 n16 V => ?_))
        obtain ⟨rfl, rfl, V⟩ := V
        obtain ⟨v17, rfl, V⟩ := V
        show Blk g M_X10_mark (pM x0 h0 nx Q) 65 [(0, .ref x0), (1, .int x1), (2, .int x2), (3, .int x3), (4, .int x4)] [.int (nI v17), .ref (x0 + 1)] hu14 nx 0 0
        refine r_iload 4 dX10_mark_65 rfl ?_
        obtain ⟨c, V⟩ := V
        refine r_iast dX10_mark_67 (MAt.g_mk HMu14) rfl c (by decide) ?_
        obtain ⟨hu18, eu18, HMu18, HOu18⟩ := mo_mk HMu14 HOu14 (va_up s11.mk v17 x4)
        refine Blk.eqs ?_ rfl rfl eu18
        replace HMu18 : MAt hu18 x0 (MV.u_mk (MV.u_cd s11 0) (va_up s11.mk v17 x4)) := HMu18
        show Blk g M_X10_mark (pM x0 h0 nx Q) 68 [(0, .ref x0), (1, .int x1), (2, .int x2), (3, .int x3), (4, .int x4)] [] hu18 nx 0 0
        refine r_aload_n 0 dX10_mark_68 rfl rfl ?_
        refine r_iconst (v := (nI 0)) dX10_mark_69 rfl ?_
        refine r_putf (ci := 11) (kf := 31) (T := TX10) rfl in_X10 tyX10_ok nmX10 (by decide) wF_X10_116 rfl (tyX10_ok 31 (by decide)) dX10_mark_70 (MAt.o_ HMu18) (Nat.le_of_ble_eq_true rfl) rfl rfl ?_
        obtain ⟨hu19, eu19, HMu19, HOu19⟩ := mo_o HMu18 HOu18 0 s11.n s11.sz s11.wn s11.at_ s11.wr s11.ru s11.dn s11.lm s11.st 0 s11.up
        refine Blk.eqs ?_ rfl rfl eu19
        replace HMu19 : MAt hu19 x0 (MV.u_fr (MV.u_mk (MV.u_cd s11 0) (va_up s11.mk v17 x4)) 0) := HMu19
        show Blk g M_X10_mark (pM x0 h0 nx Q) 73 [(0, .ref x0), (1, .int x1), (2, .int x2), (3, .int x3), (4, .int x4)] [] hu19 nx 0 0
        refine r_iconst (v := (nI 1)) dX10_mark_73 rfl ?_
        exact r_zret (ty := .boolean) dX10_mark_74 rfl rfl (by decide) (by decide) ⟨rfl, HOu19, _, HMu19, V⟩
    · have V := V.2 c
      refine r_iconst (v := (nI 0)) dX10_mark_26 rfl ?_
      exact r_zret (ty := .boolean) dX10_mark_27 rfl rfl (by decide) (by decide) ⟨rfl, HOh2, _, HMh2, V⟩
set_option maxRecDepth 20000 in
theorem v_X10_kind_0 {g : xG} {Q : mQ} {s : MV} {x0 : Nat} {x1 : Int32} {x2 : Int32} (V : (CtP g M_X10_in [.long (x1.toInt64), .long (lN 0), .long (lN 9)] (fun r => ∃ v4 : Nat, r = some (.int (nI v4)) ∧ (v4 < 2 ^ 31 ∧ ((v4 = 0 → (Q (some (.int (nI 0))) (MV.u_cd s 0))) ∧ (¬ v4 = 0 → (CtP g M_X10_in [.long (x2.toInt64), .long (lN 0), .long (lN 3)] (fun r => ∃ v7 : Nat, r = some (.int (nI v7)) ∧ (v7 < 2 ^ 31 ∧ ((¬ v7 = 0 → (∃ j8 : Nat, x1 = nI j8 ∧ ∃ z10 : Nat, x2 = nI z10 ∧ j8 < 10 ∧ (Q (some (.int (nI 1))) (MV.u_kd (MV.u_cd s 0) (va_up s.kd j8 z10))))) ∧ (v7 = 0 → (Q (some (.int (nI 0))) (MV.u_cd s 0))))))))))))) : BlkM g M_X10_kind x0 Q 0 [(0, .ref x0), (1, .int x1), (2, .int x2)] [] s := by
  intro h0 h nx HO HM
  refine r_aload_n 0 dX10_kind_0 rfl rfl ?_
  refine r_iconst (v := (nI 0)) dX10_kind_1 rfl ?_
  refine r_putf (ci := 11) (kf := 0) (T := TX10) rfl in_X10 tyX10_ok nmX10 (by decide) wF_X10_91 rfl (tyX10_ok 0 (by decide)) dX10_kind_2 (MAt.o_ HM) (Nat.le_of_ble_eq_true rfl) rfl rfl ?_
  obtain ⟨hu1, eu1, HMu1, HOu1⟩ := mo_o HM HO 0 s.n s.sz s.wn s.at_ s.wr s.ru s.dn s.lm s.st s.fr s.up
  refine Blk.eqs ?_ rfl rfl eu1
  replace HMu1 : MAt hu1 x0 (MV.u_cd s 0) := HMu1
  show Blk g M_X10_kind (pM x0 h0 nx Q) 5 [(0, .ref x0), (1, .int x1), (2, .int x2)] [] hu1 nx 0 0
  refine r_iload_n 1 dX10_kind_5 rfl rfl ?_
  refine r_i2l dX10_kind_6 ?_
  refine r_lconst (v := (lN 0)) dX10_kind_7 rfl ?_
  refine r_ldc2 (v := (lN 9)) wL_X10_98 dX10_kind_8 ?_
  refine r_callS (M2 := M_X10_in) (n := 3) (As := [.long (x1.toInt64), .long (lN 0), .long (lN 9)]) (wl4 wM_X10_94 ws_X10_in wI_StateSharesModel wc_X10_in) (by decide +kernel) (by decide) rfl rfl (Nat.le_of_ble_eq_true rfl) dX10_kind_11 (by decide) (by decide) (Ct.imp (V _ _) (fun r h2 n3 V => ?_))
  obtain ⟨rfl, rfl, V⟩ := V
  obtain ⟨v4, rfl, V⟩ := V
  show Blk g M_X10_kind (pM x0 h0 nx Q) 14 [(0, .ref x0), (1, .int x1), (2, .int x2)] [.int (nI v4)] hu1 nx 0 0
  obtain ⟨c, V⟩ := V
  refine r_if_eqN (tgt := 29) dX10_kind_14 (by decide) c (fun c => ?_) (fun c => ?_)
  · have V := V.1 c
    refine r_iconst (v := (nI 0)) dX10_kind_29 rfl ?_
    exact r_zret (ty := .boolean) dX10_kind_30 rfl rfl (by decide) (by decide) ⟨rfl, HOu1, _, HMu1, V⟩
  · have V := V.2 c
    refine r_iload_n 2 dX10_kind_17 rfl rfl ?_
    refine r_i2l dX10_kind_18 ?_
    refine r_lconst (v := (lN 0)) dX10_kind_19 rfl ?_
    refine r_ldc2 (v := (lN 3)) wL_X10_106 dX10_kind_20 ?_
    refine r_callS (M2 := M_X10_in) (n := 3) (As := [.long (x2.toInt64), .long (lN 0), .long (lN 3)]) (wl4 wM_X10_94 ws_X10_in wI_StateSharesModel wc_X10_in) (by decide +kernel) (by decide) rfl rfl (Nat.le_of_ble_eq_true rfl) dX10_kind_23 (by decide) (by decide) (Ct.imp (V _ _) (fun r h5 n6 V => ?_))
    obtain ⟨rfl, rfl, V⟩ := V
    obtain ⟨v7, rfl, V⟩ := V
    show Blk g M_X10_kind (pM x0 h0 nx Q) 26 [(0, .ref x0), (1, .int x1), (2, .int x2)] [.int (nI v7)] hu1 nx 0 0
    obtain ⟨c, V⟩ := V
    refine r_if_neN (tgt := 31) dX10_kind_26 (by decide) c (fun c => ?_) (fun c => ?_)
    · have V := V.1 c
      refine r_aload_n 0 dX10_kind_31 rfl rfl ?_
      refine r_getf (ci := 11) (kf := 3) (T := TX10) rfl in_X10 (by decide) wF_X10_13 dX10_kind_32 (MAt.o_ HMu1) rfl ?_
      show Blk g M_X10_kind (pM x0 h0 nx Q) 35 [(0, .ref x0), (1, .int x1), (2, .int x2)] [.ref (x0 + 2)] hu1 nx 0 0
      refine r_iload_n 1 dX10_kind_35 rfl rfl ?_
      refine r_iload_n 2 dX10_kind_36 rfl rfl ?_
      obtain ⟨j8, e9, V⟩ := V
      obtain ⟨z10, e11, V⟩ := V
      refine Blk.to (st' := [.int (nI z10), .int x1, .ref (x0 + 2)]) ?_ ⟨rfl, by rw [e11], rfl⟩
      obtain ⟨c, V⟩ := V
      refine r_iastH dX10_kind_37 (MAt.g_kd HMu1) e9 c (by decide) ?_
      obtain ⟨hu12, eu12, HMu12, HOu12⟩ := mo_kd HMu1 HOu1 (va_up s.kd j8 z10)
      refine Blk.eqs ?_ rfl rfl eu12
      replace HMu12 : MAt hu12 x0 (MV.u_kd (MV.u_cd s 0) (va_up s.kd j8 z10)) := HMu12
      show Blk g M_X10_kind (pM x0 h0 nx Q) 38 [(0, .ref x0), (1, .int x1), (2, .int x2)] [] hu12 nx 0 0
      refine r_iconst (v := (nI 1)) dX10_kind_38 rfl ?_
      exact r_zret (ty := .boolean) dX10_kind_39 rfl rfl (by decide) (by decide) ⟨rfl, HOu12, _, HMu12, V⟩
    · have V := V.2 c
      refine r_iconst (v := (nI 0)) dX10_kind_29 rfl ?_
      exact r_zret (ty := .boolean) dX10_kind_30 rfl rfl (by decide) (by decide) ⟨rfl, HOu1, _, HMu1, V⟩
set_option maxRecDepth 20000 in
theorem v_X10_unit_0 {g : xG} {Q : mQ} {s : MV} {x0 : Nat} {x1 : Int32} (V : (CtP g M_X10_in [.long (x1.toInt64), .long (lN 32), .long (lN 126)] (fun r => ∃ v4 : Nat, r = some (.int (nI v4)) ∧ (v4 < 2 ^ 31 ∧ ((v4 = 0 → (Q (some (.int (nI 0))) (MV.u_cd s 0))) ∧ (¬ v4 = 0 → ((s.sz < 2 ^ 31 ∧ 120 < 2 ^ 31) ∧ ((¬ s.sz = 120 → (∃ z5 : Nat, x1 = nI z5 ∧ s.sz < 120 ∧ (Q (some (.int (nI 1))) (MV.u_sz (MV.u_tx (MV.u_cd s 0) (va_up s.tx s.sz z5)) (s.sz + 1))))) ∧ (s.sz = 120 → (Q (some (.int (nI 0))) (MV.u_cd s 0))))))))))) : BlkM g M_X10_unit x0 Q 0 [(0, .ref x0), (1, .int x1)] [] s := by
  intro h0 h nx HO HM
  refine r_aload_n 0 dX10_unit_0 rfl rfl ?_
  refine r_iconst (v := (nI 0)) dX10_unit_1 rfl ?_
  refine r_putf (ci := 11) (kf := 0) (T := TX10) rfl in_X10 tyX10_ok nmX10 (by decide) wF_X10_91 rfl (tyX10_ok 0 (by decide)) dX10_unit_2 (MAt.o_ HM) (Nat.le_of_ble_eq_true rfl) rfl rfl ?_
  obtain ⟨hu1, eu1, HMu1, HOu1⟩ := mo_o HM HO 0 s.n s.sz s.wn s.at_ s.wr s.ru s.dn s.lm s.st s.fr s.up
  refine Blk.eqs ?_ rfl rfl eu1
  replace HMu1 : MAt hu1 x0 (MV.u_cd s 0) := HMu1
  show Blk g M_X10_unit (pM x0 h0 nx Q) 5 [(0, .ref x0), (1, .int x1)] [] hu1 nx 0 0
  refine r_iload_n 1 dX10_unit_5 rfl rfl ?_
  refine r_i2l dX10_unit_6 ?_
  refine r_ldc2 (v := (lN 32)) wL_X10_120 dX10_unit_7 ?_
  refine r_ldc2 (v := (lN 126)) wL_X10_122 dX10_unit_10 ?_
  refine r_callS (M2 := M_X10_in) (n := 3) (As := [.long (x1.toInt64), .long (lN 32), .long (lN 126)]) (wl4 wM_X10_94 ws_X10_in wI_StateSharesModel wc_X10_in) (by decide +kernel) (by decide) rfl rfl (Nat.le_of_ble_eq_true rfl) dX10_unit_13 (by decide) (by decide) (Ct.imp (V _ _) (fun r h2 n3 V => ?_))
  obtain ⟨rfl, rfl, V⟩ := V
  obtain ⟨v4, rfl, V⟩ := V
  show Blk g M_X10_unit (pM x0 h0 nx Q) 16 [(0, .ref x0), (1, .int x1)] [.int (nI v4)] hu1 nx 0 0
  obtain ⟨c, V⟩ := V
  refine r_if_eqN (tgt := 28) dX10_unit_16 (by decide) c (fun c => ?_) (fun c => ?_)
  · have V := V.1 c
    refine r_iconst (v := (nI 0)) dX10_unit_28 rfl ?_
    exact r_zret (ty := .boolean) dX10_unit_29 rfl rfl (by decide) (by decide) ⟨rfl, HOu1, _, HMu1, V⟩
  · have V := V.2 c
    refine r_aload_n 0 dX10_unit_19 rfl rfl ?_
    refine r_getf (ci := 11) (kf := 5) (T := TX10) rfl in_X10 (by decide) wF_X10_124 dX10_unit_20 (MAt.o_ HMu1) rfl ?_
    show Blk g M_X10_unit (pM x0 h0 nx Q) 23 [(0, .ref x0), (1, .int x1)] [.int (nI s.sz)] hu1 nx 0 0
    refine r_bipush (v := (nI 120)) dX10_unit_23 rfl ?_
    obtain ⟨c, V⟩ := V
    refine r_icmp_neN (tgt := 30) dX10_unit_25 (by decide) c (fun c => ?_) (fun c => ?_)
    · have V := V.1 c
      refine r_aload_n 0 dX10_unit_30 rfl rfl ?_
      refine r_getf (ci := 11) (kf := 4) (T := TX10) rfl in_X10 (by decide) wF_X10_16 dX10_unit_31 (MAt.o_ HMu1) rfl ?_
      show Blk g M_X10_unit (pM x0 h0 nx Q) 34 [(0, .ref x0), (1, .int x1)] [.ref (x0 + 3)] hu1 nx 0 0
      refine r_aload_n 0 dX10_unit_34 rfl rfl ?_
      refine r_getf (ci := 11) (kf := 5) (T := TX10) rfl in_X10 (by decide) wF_X10_124 dX10_unit_35 (MAt.o_ HMu1) rfl ?_
      show Blk g M_X10_unit (pM x0 h0 nx Q) 38 [(0, .ref x0), (1, .int x1)] [.int (nI s.sz), .ref (x0 + 3)] hu1 nx 0 0
      refine r_iload_n 1 dX10_unit_38 rfl rfl ?_
      obtain ⟨z5, e6, V⟩ := V
      refine Blk.to (st' := [.int (nI z5), .int (nI s.sz), .ref (x0 + 3)]) ?_ ⟨rfl, by rw [e6], rfl⟩
      obtain ⟨c, V⟩ := V
      refine r_iastN dX10_unit_39 (MAt.g_tx HMu1) c (by decide) ?_
      obtain ⟨hu7, eu7, HMu7, HOu7⟩ := mo_tx HMu1 HOu1 (va_up s.tx s.sz z5)
      refine Blk.eqs ?_ rfl rfl eu7
      replace HMu7 : MAt hu7 x0 (MV.u_tx (MV.u_cd s 0) (va_up s.tx s.sz z5)) := HMu7
      show Blk g M_X10_unit (pM x0 h0 nx Q) 40 [(0, .ref x0), (1, .int x1)] [] hu7 nx 0 0
      refine r_aload_n 0 dX10_unit_40 rfl rfl ?_
      refine r_dup dX10_unit_41 rfl ?_
      refine r_getf (ci := 11) (kf := 5) (T := TX10) rfl in_X10 (by decide) wF_X10_124 dX10_unit_42 (MAt.o_ HMu7) rfl ?_
      show Blk g M_X10_unit (pM x0 h0 nx Q) 45 [(0, .ref x0), (1, .int x1)] [.int (nI s.sz), .ref x0] hu7 nx 0 0
      refine r_iconst (v := (nI 1)) dX10_unit_45 rfl ?_
      refine r_iaddN dX10_unit_46 ?_
      refine r_putf (ci := 11) (kf := 5) (T := TX10) rfl in_X10 tyX10_ok nmX10 (by decide) wF_X10_124 rfl (tyX10_ok 5 (by decide)) dX10_unit_47 (MAt.o_ HMu7) (Nat.le_of_ble_eq_true rfl) rfl rfl ?_
      obtain ⟨hu8, eu8, HMu8, HOu8⟩ := mo_o HMu7 HOu7 0 s.n (s.sz + 1) s.wn s.at_ s.wr s.ru s.dn s.lm s.st s.fr s.up
      refine Blk.eqs ?_ rfl rfl eu8
      replace HMu8 : MAt hu8 x0 (MV.u_sz (MV.u_tx (MV.u_cd s 0) (va_up s.tx s.sz z5)) (s.sz + 1)) := HMu8
      show Blk g M_X10_unit (pM x0 h0 nx Q) 50 [(0, .ref x0), (1, .int x1)] [] hu8 nx 0 0
      refine r_iconst (v := (nI 1)) dX10_unit_50 rfl ?_
      exact r_zret (ty := .boolean) dX10_unit_51 rfl rfl (by decide) (by decide) ⟨rfl, HOu8, _, HMu8, V⟩
    · have V := V.2 c
      refine r_iconst (v := (nI 0)) dX10_unit_28 rfl ?_
      exact r_zret (ty := .boolean) dX10_unit_29 rfl rfl (by decide) (by decide) ⟨rfl, HOu1, _, HMu1, V⟩
set_option maxRecDepth 20000 in
theorem v_X10_isDigit_0 {g : xG} {Q : pQ} {x0 : Nat} (V : ((x0 < 2 ^ 31 ∧ 48 < 2 ^ 31) ∧ ((x0 < 48 → (Q (some (.int (nI 0))))) ∧ (48 ≤ x0 → ((x0 < 2 ^ 31 ∧ 57 < 2 ^ 31) ∧ ((57 < x0 → (Q (some (.int (nI 0))))) ∧ (x0 ≤ 57 → (Q (some (.int (nI 1))))))))))) : BlkP g M_X10_isDigit Q 0 [(0, .int (nI x0))] [] := by
  intro h nx
  refine r_iload_n 0 dX10_isDigit_0 rfl rfl ?_
  refine r_bipush (v := (nI 48)) dX10_isDigit_1 rfl ?_
  obtain ⟨c, V⟩ := V
  refine r_icmp_ltN (tgt := 16) dX10_isDigit_3 (by decide) c (fun c => ?_) (fun c => ?_)
  · have V := V.1 c
    refine r_iconst (v := (nI 0)) dX10_isDigit_16 rfl ?_
    exact r_zret (ty := .boolean) dX10_isDigit_17 rfl rfl (by decide) (by decide) ⟨rfl, rfl, V⟩
  · have V := V.2 c
    refine r_iload_n 0 dX10_isDigit_6 rfl rfl ?_
    refine r_bipush (v := (nI 57)) dX10_isDigit_7 rfl ?_
    obtain ⟨c, V⟩ := V
    refine r_icmp_gtN (tgt := 16) dX10_isDigit_9 (by decide) c (fun c => ?_) (fun c => ?_)
    · have V := V.1 c
      refine r_iconst (v := (nI 0)) dX10_isDigit_16 rfl ?_
      exact r_zret (ty := .boolean) dX10_isDigit_17 rfl rfl (by decide) (by decide) ⟨rfl, rfl, V⟩
    · have V := V.2 c
      refine r_iconst (v := (nI 1)) dX10_isDigit_12 rfl ?_
      refine r_goto (tgt := 17) dX10_isDigit_13 (by decide) ?_
      exact r_zret (ty := .boolean) dX10_isDigit_17 rfl rfl (by decide) (by decide) ⟨rfl, rfl, V⟩
set_option maxRecDepth 20000 in
theorem v_X10_isLetter_0 {g : xG} {Q : pQ} {x0 : Nat} (V : ((x0 < 2 ^ 31 ∧ 97 < 2 ^ 31) ∧ ((x0 < 97 → ((x0 < 2 ^ 31 ∧ 65 < 2 ^ 31) ∧ ((x0 < 65 → (Q (some (.int (nI 0))))) ∧ (65 ≤ x0 → ((x0 < 2 ^ 31 ∧ 90 < 2 ^ 31) ∧ ((90 < x0 → (Q (some (.int (nI 0))))) ∧ (x0 ≤ 90 → (Q (some (.int (nI 1))))))))))) ∧ (97 ≤ x0 → ((x0 < 2 ^ 31 ∧ 122 < 2 ^ 31) ∧ ((x0 ≤ 122 → (Q (some (.int (nI 1))))) ∧ (122 < x0 → ((x0 < 2 ^ 31 ∧ 65 < 2 ^ 31) ∧ ((x0 < 65 → (Q (some (.int (nI 0))))) ∧ (65 ≤ x0 → ((x0 < 2 ^ 31 ∧ 90 < 2 ^ 31) ∧ ((90 < x0 → (Q (some (.int (nI 0))))) ∧ (x0 ≤ 90 → (Q (some (.int (nI 1))))))))))))))))) : BlkP g M_X10_isLetter Q 0 [(0, .int (nI x0))] [] := by
  intro h nx
  refine r_iload_n 0 dX10_isLetter_0 rfl rfl ?_
  refine r_bipush (v := (nI 97)) dX10_isLetter_1 rfl ?_
  obtain ⟨c, V⟩ := V
  refine r_icmp_ltN (tgt := 12) dX10_isLetter_3 (by decide) c (fun c => ?_) (fun c => ?_)
  · have V := V.1 c
    refine r_iload_n 0 dX10_isLetter_12 rfl rfl ?_
    refine r_bipush (v := (nI 65)) dX10_isLetter_13 rfl ?_
    obtain ⟨c, V⟩ := V
    refine r_icmp_ltN (tgt := 28) dX10_isLetter_15 (by decide) c (fun c => ?_) (fun c => ?_)
    · have V := V.1 c
      refine r_iconst (v := (nI 0)) dX10_isLetter_28 rfl ?_
      exact r_zret (ty := .boolean) dX10_isLetter_29 rfl rfl (by decide) (by decide) ⟨rfl, rfl, V⟩
    · have V := V.2 c
      refine r_iload_n 0 dX10_isLetter_18 rfl rfl ?_
      refine r_bipush (v := (nI 90)) dX10_isLetter_19 rfl ?_
      obtain ⟨c, V⟩ := V
      refine r_icmp_gtN (tgt := 28) dX10_isLetter_21 (by decide) c (fun c => ?_) (fun c => ?_)
      · have V := V.1 c
        refine r_iconst (v := (nI 0)) dX10_isLetter_28 rfl ?_
        exact r_zret (ty := .boolean) dX10_isLetter_29 rfl rfl (by decide) (by decide) ⟨rfl, rfl, V⟩
      · have V := V.2 c
        refine r_iconst (v := (nI 1)) dX10_isLetter_24 rfl ?_
        refine r_goto (tgt := 29) dX10_isLetter_25 (by decide) ?_
        exact r_zret (ty := .boolean) dX10_isLetter_29 rfl rfl (by decide) (by decide) ⟨rfl, rfl, V⟩
  · have V := V.2 c
    refine r_iload_n 0 dX10_isLetter_6 rfl rfl ?_
    refine r_bipush (v := (nI 122)) dX10_isLetter_7 rfl ?_
    obtain ⟨c, V⟩ := V
    refine r_icmp_leN (tgt := 24) dX10_isLetter_9 (by decide) c (fun c => ?_) (fun c => ?_)
    · have V := V.1 c
      refine r_iconst (v := (nI 1)) dX10_isLetter_24 rfl ?_
      refine r_goto (tgt := 29) dX10_isLetter_25 (by decide) ?_
      exact r_zret (ty := .boolean) dX10_isLetter_29 rfl rfl (by decide) (by decide) ⟨rfl, rfl, V⟩
    · have V := V.2 c
      refine r_iload_n 0 dX10_isLetter_12 rfl rfl ?_
      refine r_bipush (v := (nI 65)) dX10_isLetter_13 rfl ?_
      obtain ⟨c, V⟩ := V
      refine r_icmp_ltN (tgt := 28) dX10_isLetter_15 (by decide) c (fun c => ?_) (fun c => ?_)
      · have V := V.1 c
        refine r_iconst (v := (nI 0)) dX10_isLetter_28 rfl ?_
        exact r_zret (ty := .boolean) dX10_isLetter_29 rfl rfl (by decide) (by decide) ⟨rfl, rfl, V⟩
      · have V := V.2 c
        refine r_iload_n 0 dX10_isLetter_18 rfl rfl ?_
        refine r_bipush (v := (nI 90)) dX10_isLetter_19 rfl ?_
        obtain ⟨c, V⟩ := V
        refine r_icmp_gtN (tgt := 28) dX10_isLetter_21 (by decide) c (fun c => ?_) (fun c => ?_)
        · have V := V.1 c
          refine r_iconst (v := (nI 0)) dX10_isLetter_28 rfl ?_
          exact r_zret (ty := .boolean) dX10_isLetter_29 rfl rfl (by decide) (by decide) ⟨rfl, rfl, V⟩
        · have V := V.2 c
          refine r_iconst (v := (nI 1)) dX10_isLetter_24 rfl ?_
          refine r_goto (tgt := 29) dX10_isLetter_25 (by decide) ?_
          exact r_zret (ty := .boolean) dX10_isLetter_29 rfl rfl (by decide) (by decide) ⟨rfl, rfl, V⟩
set_option maxRecDepth 20000 in
theorem v_X10_split_0 {g : xG} {Q : mQ} {s : MV} {x0 : Nat} (V : BlkM g M_X10_split x0 Q 7 [(0, .ref x0), (1, .int (nI 0))] [] (MV.u_wn s 0)) : BlkM g M_X10_split x0 Q 0 [(0, .ref x0)] [] s := by
  intro h0 h nx HO HM
  refine r_aload_n 0 dX10_split_0 rfl rfl ?_
  refine r_iconst (v := (nI 0)) dX10_split_1 rfl ?_
  refine r_putf (ci := 11) (kf := 6) (T := TX10) rfl in_X10 tyX10_ok nmX10 (by decide) wF_X10_127 rfl (tyX10_ok 6 (by decide)) dX10_split_2 (MAt.o_ HM) (Nat.le_of_ble_eq_true rfl) rfl rfl ?_
  obtain ⟨hu1, eu1, HMu1, HOu1⟩ := mo_o HM HO s.cd s.n s.sz 0 s.at_ s.wr s.ru s.dn s.lm s.st s.fr s.up
  refine Blk.eqs ?_ rfl rfl eu1
  replace HMu1 : MAt hu1 x0 (MV.u_wn s 0) := HMu1
  show Blk g M_X10_split (pM x0 h0 nx Q) 5 [(0, .ref x0)] [] hu1 nx 0 0
  refine r_iconst (v := (nI 0)) dX10_split_5 rfl ?_
  refine r_istore_n (L' := [(1, .int (nI 0)), (0, .ref x0)]) dX10_split_6 rfl (by decide) rfl ?_
  exact Blk.sub [1, 0] rfl (V _ _ _ HOu1 HMu1)
set_option maxRecDepth 20000 in
theorem v_X10_split_7 {g : xG} {Q : mQ} {s : MV} {x0 : Nat} {x1 : Nat} (V : ((x1 < 2 ^ 31 ∧ s.sz < 2 ^ 31) ∧ ((s.sz ≤ x1 → (Q none s)) ∧ (x1 < s.sz → BlkM g M_X10_split x0 Q 20 [(0, .ref x0), (1, .int (nI (x1 + 1))), (2, .int (nI x1))] [] s)))) : BlkM g M_X10_split x0 Q 7 [(0, .ref x0), (1, .int (nI x1))] [] s := by
  intro h0 h nx HO HM
  refine r_iload_n 1 dX10_split_7 rfl rfl ?_
  refine r_aload_n 0 dX10_split_8 rfl rfl ?_
  refine r_getf (ci := 11) (kf := 5) (T := TX10) rfl in_X10 (by decide) wF_X10_124 dX10_split_9 (MAt.o_ HM) rfl ?_
  obtain ⟨c, V⟩ := V
  refine r_icmp_geN (tgt := 126) dX10_split_12 (by decide) c (fun c => ?_) (fun c => ?_)
  · have V := V.1 c
    exact r_vret dX10_split_126 rfl (by decide) (by decide) ⟨rfl, HO, _, HM, V⟩
  · have V := V.2 c
    refine r_iload_n 1 dX10_split_15 rfl rfl ?_
    refine r_istore_n (L' := [(2, .int (nI x1)), (0, .ref x0), (1, .int (nI x1))]) dX10_split_16 rfl (by decide) rfl ?_
    refine r_iincN 2 (b := 1) (L' := [(1, .int (nI (x1 + 1))), (2, .int (nI x1)), (0, .ref x0)]) dX10_split_17 rfl rfl (by decide) rfl ?_
    exact Blk.sub [2, 0, 1] rfl (V _ _ _ HO HM)
set_option maxRecDepth 20000 in
theorem v_X10_split_20 {g : xG} {Q : mQ} {s : MV} {x0 : Nat} {x1 : Nat} {x2 : Nat} (V : ((x1 < 2 ^ 31 ∧ s.sz < 2 ^ 31) ∧ ((s.sz ≤ x1 → (x2 < 120 ∧ (((s.tx x2) < 2 ^ 31 ∧ 32 < 2 ^ 31) ∧ (((s.tx x2) = 32 → BlkM g M_X10_split x0 Q 7 [(0, .ref x0), (1, .int (nI x1))] [] s) ∧ (¬ (s.tx x2) = 32 → (s.wn < 121 ∧ (s.wn < 121 ∧ BlkM g M_X10_split x0 Q 7 [(0, .ref x0), (1, .int (nI x1))] [] (MV.u_wn (MV.u_wt (MV.u_wf s (va_up s.wf s.wn x2)) (va_up s.wt s.wn x1)) (s.wn + 1))))))))) ∧ (x1 < s.sz → (x2 < 120 ∧ (CtP g M_X10_isDigit [.int (nI (s.tx x2))] (fun r => ∃ v6 : Nat, r = some (.int (nI v6)) ∧ (v6 < 2 ^ 31 ∧ ((v6 = 0 → (x2 < 120 ∧ (CtP g M_X10_isLetter [.int (nI (s.tx x2))] (fun r => ∃ v9 : Nat, r = some (.int (nI v9)) ∧ (v9 < 2 ^ 31 ∧ ((v9 = 0 → (x2 < 120 ∧ (((s.tx x2) < 2 ^ 31 ∧ 32 < 2 ^ 31) ∧ (((s.tx x2) = 32 → BlkM g M_X10_split x0 Q 7 [(0, .ref x0), (1, .int (nI x1))] [] s) ∧ (¬ (s.tx x2) = 32 → (s.wn < 121 ∧ (s.wn < 121 ∧ BlkM g M_X10_split x0 Q 7 [(0, .ref x0), (1, .int (nI x1))] [] (MV.u_wn (MV.u_wt (MV.u_wf s (va_up s.wf s.wn x2)) (va_up s.wt s.wn x1)) (s.wn + 1))))))))) ∧ (¬ v9 = 0 → (x1 < 120 ∧ (CtP g M_X10_isLetter [.int (nI (s.tx x1))] (fun r => ∃ v15 : Nat, r = some (.int (nI v15)) ∧ (v15 < 2 ^ 31 ∧ ((v15 = 0 → (x2 < 120 ∧ (((s.tx x2) < 2 ^ 31 ∧ 32 < 2 ^ 31) ∧ (((s.tx x2) = 32 → BlkM g M_X10_split x0 Q 7 [(0, .ref x0), (1, .int (nI x1))] [] s) ∧ (¬ (s.tx x2) = 32 → (s.wn < 121 ∧ (s.wn < 121 ∧ BlkM g M_X10_split x0 Q 7 [(0, .ref x0), (1, .int (nI x1))] [] (MV.u_wn (MV.u_wt (MV.u_wf s (va_up s.wf s.wn x2)) (va_up s.wt s.wn x1)) (s.wn + 1))))))))) ∧ (¬ v15 = 0 → BlkM g M_X10_split x0 Q 20 [(0, .ref x0), (1, .int (nI (x1 + 1))), (2, .int (nI x2))] [] s))))))))))))) ∧ (¬ v6 = 0 → (x1 < 120 ∧ (CtP g M_X10_isDigit [.int (nI (s.tx x1))] (fun r => ∃ v21 : Nat, r = some (.int (nI v21)) ∧ (v21 < 2 ^ 31 ∧ ((¬ v21 = 0 → BlkM g M_X10_split x0 Q 20 [(0, .ref x0), (1, .int (nI (x1 + 1))), (2, .int (nI x2))] [] s) ∧ (v21 = 0 → (x2 < 120 ∧ (CtP g M_X10_isLetter [.int (nI (s.tx x2))] (fun r => ∃ v24 : Nat, r = some (.int (nI v24)) ∧ (v24 < 2 ^ 31 ∧ ((v24 = 0 → (x2 < 120 ∧ (((s.tx x2) < 2 ^ 31 ∧ 32 < 2 ^ 31) ∧ (((s.tx x2) = 32 → BlkM g M_X10_split x0 Q 7 [(0, .ref x0), (1, .int (nI x1))] [] s) ∧ (¬ (s.tx x2) = 32 → (s.wn < 121 ∧ (s.wn < 121 ∧ BlkM g M_X10_split x0 Q 7 [(0, .ref x0), (1, .int (nI x1))] [] (MV.u_wn (MV.u_wt (MV.u_wf s (va_up s.wf s.wn x2)) (va_up s.wt s.wn x1)) (s.wn + 1))))))))) ∧ (¬ v24 = 0 → (x1 < 120 ∧ (CtP g M_X10_isLetter [.int (nI (s.tx x1))] (fun r => ∃ v30 : Nat, r = some (.int (nI v30)) ∧ (v30 < 2 ^ 31 ∧ ((v30 = 0 → (x2 < 120 ∧ (((s.tx x2) < 2 ^ 31 ∧ 32 < 2 ^ 31) ∧ (((s.tx x2) = 32 → BlkM g M_X10_split x0 Q 7 [(0, .ref x0), (1, .int (nI x1))] [] s) ∧ (¬ (s.tx x2) = 32 → (s.wn < 121 ∧ (s.wn < 121 ∧ BlkM g M_X10_split x0 Q 7 [(0, .ref x0), (1, .int (nI x1))] [] (MV.u_wn (MV.u_wt (MV.u_wf s (va_up s.wf s.wn x2)) (va_up s.wt s.wn x1)) (s.wn + 1))))))))) ∧ (¬ v30 = 0 → BlkM g M_X10_split x0 Q 20 [(0, .ref x0), (1, .int (nI (x1 + 1))), (2, .int (nI x2))] [] s)))))))))))))))))))))))))))) : BlkM g M_X10_split x0 Q 20 [(0, .ref x0), (1, .int (nI x1)), (2, .int (nI x2))] [] s := by
  intro h0 h nx HO HM
  refine r_iload_n 1 dX10_split_20 rfl rfl ?_
  refine r_aload_n 0 dX10_split_21 rfl rfl ?_
  refine r_getf (ci := 11) (kf := 5) (T := TX10) rfl in_X10 (by decide) wF_X10_124 dX10_split_22 (MAt.o_ HM) rfl ?_
  obtain ⟨c, V⟩ := V
  refine r_icmp_geN (tgt := 82) dX10_split_25 (by decide) c (fun c => ?_) (fun c => ?_)
  · have V := V.1 c
    refine r_aload_n 0 dX10_split_82 rfl rfl ?_
    refine r_getf (ci := 11) (kf := 4) (T := TX10) rfl in_X10 (by decide) wF_X10_16 dX10_split_83 (MAt.o_ HM) rfl ?_
    refine r_iload_n 2 dX10_split_86 rfl rfl ?_
    obtain ⟨c, V⟩ := V
    refine r_iald dX10_split_87 (MAt.g_tx HM) rfl c (by decide) ?_
    show Blk g M_X10_split (pM x0 h0 nx Q) 88 [(0, .ref x0), (1, .int (nI x1)), (2, .int (nI x2))] [.int (nI (s.tx x2))] h nx 0 0
    refine r_bipush (v := (nI 32)) dX10_split_88 rfl ?_
    obtain ⟨c, V⟩ := V
    refine r_icmp_eqN (tgt := 123) dX10_split_90 (by decide) c (fun c => ?_) (fun c => ?_)
    · have V := V.1 c
      refine r_goto (tgt := 7) dX10_split_123 (by decide) ?_
      exact Blk.sub [0, 1] rfl (V _ _ _ HO HM)
    · have V := V.2 c
      refine r_aload_n 0 dX10_split_93 rfl rfl ?_
      refine r_getf (ci := 11) (kf := 7) (T := TX10) rfl in_X10 (by decide) wF_X10_19 dX10_split_94 (MAt.o_ HM) rfl ?_
      refine r_aload_n 0 dX10_split_97 rfl rfl ?_
      refine r_getf (ci := 11) (kf := 6) (T := TX10) rfl in_X10 (by decide) wF_X10_127 dX10_split_98 (MAt.o_ HM) rfl ?_
      refine r_iload_n 2 dX10_split_101 rfl rfl ?_
      obtain ⟨c, V⟩ := V
      refine r_iastN dX10_split_102 (MAt.g_wf HM) c (by decide) ?_
      obtain ⟨hu1, eu1, HMu1, HOu1⟩ := mo_wf HM HO (va_up s.wf s.wn x2)
      refine Blk.eqs ?_ rfl rfl eu1
      replace HMu1 : MAt hu1 x0 (MV.u_wf s (va_up s.wf s.wn x2)) := HMu1
      show Blk g M_X10_split (pM x0 h0 nx Q) 103 [(0, .ref x0), (1, .int (nI x1)), (2, .int (nI x2))] [] hu1 nx 0 0
      refine r_aload_n 0 dX10_split_103 rfl rfl ?_
      refine r_getf (ci := 11) (kf := 8) (T := TX10) rfl in_X10 (by decide) wF_X10_22 dX10_split_104 (MAt.o_ HMu1) rfl ?_
      show Blk g M_X10_split (pM x0 h0 nx Q) 107 [(0, .ref x0), (1, .int (nI x1)), (2, .int (nI x2))] [.ref (x0 + 5)] hu1 nx 0 0
      refine r_aload_n 0 dX10_split_107 rfl rfl ?_
      refine r_getf (ci := 11) (kf := 6) (T := TX10) rfl in_X10 (by decide) wF_X10_127 dX10_split_108 (MAt.o_ HMu1) rfl ?_
      show Blk g M_X10_split (pM x0 h0 nx Q) 111 [(0, .ref x0), (1, .int (nI x1)), (2, .int (nI x2))] [.int (nI s.wn), .ref (x0 + 5)] hu1 nx 0 0
      refine r_iload_n 1 dX10_split_111 rfl rfl ?_
      obtain ⟨c, V⟩ := V
      refine r_iastN dX10_split_112 (MAt.g_wt HMu1) c (by decide) ?_
      obtain ⟨hu2, eu2, HMu2, HOu2⟩ := mo_wt HMu1 HOu1 (va_up s.wt s.wn x1)
      refine Blk.eqs ?_ rfl rfl eu2
      replace HMu2 : MAt hu2 x0 (MV.u_wt (MV.u_wf s (va_up s.wf s.wn x2)) (va_up s.wt s.wn x1)) := HMu2
      show Blk g M_X10_split (pM x0 h0 nx Q) 113 [(0, .ref x0), (1, .int (nI x1)), (2, .int (nI x2))] [] hu2 nx 0 0
      refine r_aload_n 0 dX10_split_113 rfl rfl ?_
      refine r_dup dX10_split_114 rfl ?_
      refine r_getf (ci := 11) (kf := 6) (T := TX10) rfl in_X10 (by decide) wF_X10_127 dX10_split_115 (MAt.o_ HMu2) rfl ?_
      show Blk g M_X10_split (pM x0 h0 nx Q) 118 [(0, .ref x0), (1, .int (nI x1)), (2, .int (nI x2))] [.int (nI s.wn), .ref x0] hu2 nx 0 0
      refine r_iconst (v := (nI 1)) dX10_split_118 rfl ?_
      refine r_iaddN dX10_split_119 ?_
      refine r_putf (ci := 11) (kf := 6) (T := TX10) rfl in_X10 tyX10_ok nmX10 (by decide) wF_X10_127 rfl (tyX10_ok 6 (by decide)) dX10_split_120 (MAt.o_ HMu2) (Nat.le_of_ble_eq_true rfl) rfl rfl ?_
      obtain ⟨hu3, eu3, HMu3, HOu3⟩ := mo_o HMu2 HOu2 s.cd s.n s.sz (s.wn + 1) s.at_ s.wr s.ru s.dn s.lm s.st s.fr s.up
      refine Blk.eqs ?_ rfl rfl eu3
      replace HMu3 : MAt hu3 x0 (MV.u_wn (MV.u_wt (MV.u_wf s (va_up s.wf s.wn x2)) (va_up s.wt s.wn x1)) (s.wn + 1)) := HMu3
      show Blk g M_X10_split (pM x0 h0 nx Q) 123 [(0, .ref x0), (1, .int (nI x1)), (2, .int (nI x2))] [] hu3 nx 0 0
      refine r_goto (tgt := 7) dX10_split_123 (by decide) ?_
      exact Blk.sub [0, 1] rfl (V _ _ _ HOu3 HMu3)
  · have V := V.2 c
    refine r_aload_n 0 dX10_split_28 rfl rfl ?_
    refine r_getf (ci := 11) (kf := 4) (T := TX10) rfl in_X10 (by decide) wF_X10_16 dX10_split_29 (MAt.o_ HM) rfl ?_
    refine r_iload_n 2 dX10_split_32 rfl rfl ?_
    obtain ⟨c, V⟩ := V
    refine r_iald dX10_split_33 (MAt.g_tx HM) rfl c (by decide) ?_
    show Blk g M_X10_split (pM x0 h0 nx Q) 34 [(0, .ref x0), (1, .int (nI x1)), (2, .int (nI x2))] [.int (nI (s.tx x2))] h nx 0 0
    refine r_callS (M2 := M_X10_isDigit) (n := 1) (As := [.int (nI (s.tx x2))]) (wl4 wM_X10_130 ws_X10_isDigit wI_StateSharesModel wc_X10_isDigit) (by decide +kernel) (by decide) rfl rfl (Nat.le_of_ble_eq_true rfl) dX10_split_34 (by decide) (by decide) (Ct.imp (V _ _) (fun r h4 n5 V => ?_))
    obtain ⟨rfl, rfl, V⟩ := V
    obtain ⟨v6, rfl, V⟩ := V
    show Blk g M_X10_split (pM x0 h0 nx Q) 37 [(0, .ref x0), (1, .int (nI x1)), (2, .int (nI x2))] [.int (nI v6)] h nx 0 0
    obtain ⟨c, V⟩ := V
    refine r_if_eqN (tgt := 52) dX10_split_37 (by decide) c (fun c => ?_) (fun c => ?_)
    · have V := V.1 c
      refine r_aload_n 0 dX10_split_52 rfl rfl ?_
      refine r_getf (ci := 11) (kf := 4) (T := TX10) rfl in_X10 (by decide) wF_X10_16 dX10_split_53 (MAt.o_ HM) rfl ?_
      refine r_iload_n 2 dX10_split_56 rfl rfl ?_
      obtain ⟨c, V⟩ := V
      refine r_iald dX10_split_57 (MAt.g_tx HM) rfl c (by decide) ?_
      show Blk g M_X10_split (pM x0 h0 nx Q) 58 [(0, .ref x0), (1, .int (nI x1)), (2, .int (nI x2))] [.int (nI (s.tx x2))] h nx 0 0
      refine r_callS (M2 := M_X10_isLetter) (n := 1) (As := [.int (nI (s.tx x2))]) (wl4 wM_X10_133 ws_X10_isLetter wI_StateSharesModel wc_X10_isLetter) (by decide +kernel) (by decide) rfl rfl (Nat.le_of_ble_eq_true rfl) dX10_split_58 (by decide) (by decide) (Ct.imp (V _ _) (fun r h7 n8 V => ?_))
      obtain ⟨rfl, rfl, V⟩ := V
      obtain ⟨v9, rfl, V⟩ := V
      show Blk g M_X10_split (pM x0 h0 nx Q) 61 [(0, .ref x0), (1, .int (nI x1)), (2, .int (nI x2))] [.int (nI v9)] h nx 0 0
      obtain ⟨c, V⟩ := V
      refine r_if_eqN (tgt := 82) dX10_split_61 (by decide) c (fun c => ?_) (fun c => ?_)
      · have V := V.1 c
        refine r_aload_n 0 dX10_split_82 rfl rfl ?_
        refine r_getf (ci := 11) (kf := 4) (T := TX10) rfl in_X10 (by decide) wF_X10_16 dX10_split_83 (MAt.o_ HM) rfl ?_
        refine r_iload_n 2 dX10_split_86 rfl rfl ?_
        obtain ⟨c, V⟩ := V
        refine r_iald dX10_split_87 (MAt.g_tx HM) rfl c (by decide) ?_
        show Blk g M_X10_split (pM x0 h0 nx Q) 88 [(0, .ref x0), (1, .int (nI x1)), (2, .int (nI x2))] [.int (nI (s.tx x2))] h nx 0 0
        refine r_bipush (v := (nI 32)) dX10_split_88 rfl ?_
        obtain ⟨c, V⟩ := V
        refine r_icmp_eqN (tgt := 123) dX10_split_90 (by decide) c (fun c => ?_) (fun c => ?_)
        · have V := V.1 c
          refine r_goto (tgt := 7) dX10_split_123 (by decide) ?_
          exact Blk.sub [0, 1] rfl (V _ _ _ HO HM)
        · have V := V.2 c
          refine r_aload_n 0 dX10_split_93 rfl rfl ?_
          refine r_getf (ci := 11) (kf := 7) (T := TX10) rfl in_X10 (by decide) wF_X10_19 dX10_split_94 (MAt.o_ HM) rfl ?_
          refine r_aload_n 0 dX10_split_97 rfl rfl ?_
          refine r_getf (ci := 11) (kf := 6) (T := TX10) rfl in_X10 (by decide) wF_X10_127 dX10_split_98 (MAt.o_ HM) rfl ?_
          refine r_iload_n 2 dX10_split_101 rfl rfl ?_
          obtain ⟨c, V⟩ := V
          refine r_iastN dX10_split_102 (MAt.g_wf HM) c (by decide) ?_
          obtain ⟨hu10, eu10, HMu10, HOu10⟩ := mo_wf HM HO (va_up s.wf s.wn x2)
          refine Blk.eqs ?_ rfl rfl eu10
          replace HMu10 : MAt hu10 x0 (MV.u_wf s (va_up s.wf s.wn x2)) := HMu10
          show Blk g M_X10_split (pM x0 h0 nx Q) 103 [(0, .ref x0), (1, .int (nI x1)), (2, .int (nI x2))] [] hu10 nx 0 0
          refine r_aload_n 0 dX10_split_103 rfl rfl ?_
          refine r_getf (ci := 11) (kf := 8) (T := TX10) rfl in_X10 (by decide) wF_X10_22 dX10_split_104 (MAt.o_ HMu10) rfl ?_
          show Blk g M_X10_split (pM x0 h0 nx Q) 107 [(0, .ref x0), (1, .int (nI x1)), (2, .int (nI x2))] [.ref (x0 + 5)] hu10 nx 0 0
          refine r_aload_n 0 dX10_split_107 rfl rfl ?_
          refine r_getf (ci := 11) (kf := 6) (T := TX10) rfl in_X10 (by decide) wF_X10_127 dX10_split_108 (MAt.o_ HMu10) rfl ?_
          show Blk g M_X10_split (pM x0 h0 nx Q) 111 [(0, .ref x0), (1, .int (nI x1)), (2, .int (nI x2))] [.int (nI s.wn), .ref (x0 + 5)] hu10 nx 0 0
          refine r_iload_n 1 dX10_split_111 rfl rfl ?_
          obtain ⟨c, V⟩ := V
          refine r_iastN dX10_split_112 (MAt.g_wt HMu10) c (by decide) ?_
          obtain ⟨hu11, eu11, HMu11, HOu11⟩ := mo_wt HMu10 HOu10 (va_up s.wt s.wn x1)
          refine Blk.eqs ?_ rfl rfl eu11
          replace HMu11 : MAt hu11 x0 (MV.u_wt (MV.u_wf s (va_up s.wf s.wn x2)) (va_up s.wt s.wn x1)) := HMu11
          show Blk g M_X10_split (pM x0 h0 nx Q) 113 [(0, .ref x0), (1, .int (nI x1)), (2, .int (nI x2))] [] hu11 nx 0 0
          refine r_aload_n 0 dX10_split_113 rfl rfl ?_
          refine r_dup dX10_split_114 rfl ?_
          refine r_getf (ci := 11) (kf := 6) (T := TX10) rfl in_X10 (by decide) wF_X10_127 dX10_split_115 (MAt.o_ HMu11) rfl ?_
          show Blk g M_X10_split (pM x0 h0 nx Q) 118 [(0, .ref x0), (1, .int (nI x1)), (2, .int (nI x2))] [.int (nI s.wn), .ref x0] hu11 nx 0 0
          refine r_iconst (v := (nI 1)) dX10_split_118 rfl ?_
          refine r_iaddN dX10_split_119 ?_
          refine r_putf (ci := 11) (kf := 6) (T := TX10) rfl in_X10 tyX10_ok nmX10 (by decide) wF_X10_127 rfl (tyX10_ok 6 (by decide)) dX10_split_120 (MAt.o_ HMu11) (Nat.le_of_ble_eq_true rfl) rfl rfl ?_
          obtain ⟨hu12, eu12, HMu12, HOu12⟩ := mo_o HMu11 HOu11 s.cd s.n s.sz (s.wn + 1) s.at_ s.wr s.ru s.dn s.lm s.st s.fr s.up
          refine Blk.eqs ?_ rfl rfl eu12
          replace HMu12 : MAt hu12 x0 (MV.u_wn (MV.u_wt (MV.u_wf s (va_up s.wf s.wn x2)) (va_up s.wt s.wn x1)) (s.wn + 1)) := HMu12
          show Blk g M_X10_split (pM x0 h0 nx Q) 123 [(0, .ref x0), (1, .int (nI x1)), (2, .int (nI x2))] [] hu12 nx 0 0
          refine r_goto (tgt := 7) dX10_split_123 (by decide) ?_
          exact Blk.sub [0, 1] rfl (V _ _ _ HOu12 HMu12)
      · have V := V.2 c
        refine r_aload_n 0 dX10_split_64 rfl rfl ?_
        refine r_getf (ci := 11) (kf := 4) (T := TX10) rfl in_X10 (by decide) wF_X10_16 dX10_split_65 (MAt.o_ HM) rfl ?_
        refine r_iload_n 1 dX10_split_68 rfl rfl ?_
        obtain ⟨c, V⟩ := V
        refine r_iald dX10_split_69 (MAt.g_tx HM) rfl c (by decide) ?_
        show Blk g M_X10_split (pM x0 h0 nx Q) 70 [(0, .ref x0), (1, .int (nI x1)), (2, .int (nI x2))] [.int (nI (s.tx x1))] h nx 0 0
        refine r_callS (M2 := M_X10_isLetter) (n := 1) (As := [.int (nI (s.tx x1))]) (wl4 wM_X10_133 ws_X10_isLetter wI_StateSharesModel wc_X10_isLetter) (by decide +kernel) (by decide) rfl rfl (Nat.le_of_ble_eq_true rfl) dX10_split_70 (by decide) (by decide) (Ct.imp (V _ _) (fun r h13 n14 V => ?_))
        obtain ⟨rfl, rfl, V⟩ := V
        obtain ⟨v15, rfl, V⟩ := V
        show Blk g M_X10_split (pM x0 h0 nx Q) 73 [(0, .ref x0), (1, .int (nI x1)), (2, .int (nI x2))] [.int (nI v15)] h nx 0 0
        obtain ⟨c, V⟩ := V
        refine r_if_eqN (tgt := 82) dX10_split_73 (by decide) c (fun c => ?_) (fun c => ?_)
        · have V := V.1 c
          refine r_aload_n 0 dX10_split_82 rfl rfl ?_
          refine r_getf (ci := 11) (kf := 4) (T := TX10) rfl in_X10 (by decide) wF_X10_16 dX10_split_83 (MAt.o_ HM) rfl ?_
          refine r_iload_n 2 dX10_split_86 rfl rfl ?_
          obtain ⟨c, V⟩ := V
          refine r_iald dX10_split_87 (MAt.g_tx HM) rfl c (by decide) ?_
          show Blk g M_X10_split (pM x0 h0 nx Q) 88 [(0, .ref x0), (1, .int (nI x1)), (2, .int (nI x2))] [.int (nI (s.tx x2))] h nx 0 0
          refine r_bipush (v := (nI 32)) dX10_split_88 rfl ?_
          obtain ⟨c, V⟩ := V
          refine r_icmp_eqN (tgt := 123) dX10_split_90 (by decide) c (fun c => ?_) (fun c => ?_)
          · have V := V.1 c
            refine r_goto (tgt := 7) dX10_split_123 (by decide) ?_
            exact Blk.sub [0, 1] rfl (V _ _ _ HO HM)
          · have V := V.2 c
            refine r_aload_n 0 dX10_split_93 rfl rfl ?_
            refine r_getf (ci := 11) (kf := 7) (T := TX10) rfl in_X10 (by decide) wF_X10_19 dX10_split_94 (MAt.o_ HM) rfl ?_
            refine r_aload_n 0 dX10_split_97 rfl rfl ?_
            refine r_getf (ci := 11) (kf := 6) (T := TX10) rfl in_X10 (by decide) wF_X10_127 dX10_split_98 (MAt.o_ HM) rfl ?_
            refine r_iload_n 2 dX10_split_101 rfl rfl ?_
            obtain ⟨c, V⟩ := V
            refine r_iastN dX10_split_102 (MAt.g_wf HM) c (by decide) ?_
            obtain ⟨hu16, eu16, HMu16, HOu16⟩ := mo_wf HM HO (va_up s.wf s.wn x2)
            refine Blk.eqs ?_ rfl rfl eu16
            replace HMu16 : MAt hu16 x0 (MV.u_wf s (va_up s.wf s.wn x2)) := HMu16
            show Blk g M_X10_split (pM x0 h0 nx Q) 103 [(0, .ref x0), (1, .int (nI x1)), (2, .int (nI x2))] [] hu16 nx 0 0
            refine r_aload_n 0 dX10_split_103 rfl rfl ?_
            refine r_getf (ci := 11) (kf := 8) (T := TX10) rfl in_X10 (by decide) wF_X10_22 dX10_split_104 (MAt.o_ HMu16) rfl ?_
            show Blk g M_X10_split (pM x0 h0 nx Q) 107 [(0, .ref x0), (1, .int (nI x1)), (2, .int (nI x2))] [.ref (x0 + 5)] hu16 nx 0 0
            refine r_aload_n 0 dX10_split_107 rfl rfl ?_
            refine r_getf (ci := 11) (kf := 6) (T := TX10) rfl in_X10 (by decide) wF_X10_127 dX10_split_108 (MAt.o_ HMu16) rfl ?_
            show Blk g M_X10_split (pM x0 h0 nx Q) 111 [(0, .ref x0), (1, .int (nI x1)), (2, .int (nI x2))] [.int (nI s.wn), .ref (x0 + 5)] hu16 nx 0 0
            refine r_iload_n 1 dX10_split_111 rfl rfl ?_
            obtain ⟨c, V⟩ := V
            refine r_iastN dX10_split_112 (MAt.g_wt HMu16) c (by decide) ?_
            obtain ⟨hu17, eu17, HMu17, HOu17⟩ := mo_wt HMu16 HOu16 (va_up s.wt s.wn x1)
            refine Blk.eqs ?_ rfl rfl eu17
            replace HMu17 : MAt hu17 x0 (MV.u_wt (MV.u_wf s (va_up s.wf s.wn x2)) (va_up s.wt s.wn x1)) := HMu17
            show Blk g M_X10_split (pM x0 h0 nx Q) 113 [(0, .ref x0), (1, .int (nI x1)), (2, .int (nI x2))] [] hu17 nx 0 0
            refine r_aload_n 0 dX10_split_113 rfl rfl ?_
            refine r_dup dX10_split_114 rfl ?_
            refine r_getf (ci := 11) (kf := 6) (T := TX10) rfl in_X10 (by decide) wF_X10_127 dX10_split_115 (MAt.o_ HMu17) rfl ?_
            show Blk g M_X10_split (pM x0 h0 nx Q) 118 [(0, .ref x0), (1, .int (nI x1)), (2, .int (nI x2))] [.int (nI s.wn), .ref x0] hu17 nx 0 0
            refine r_iconst (v := (nI 1)) dX10_split_118 rfl ?_
            refine r_iaddN dX10_split_119 ?_
            refine r_putf (ci := 11) (kf := 6) (T := TX10) rfl in_X10 tyX10_ok nmX10 (by decide) wF_X10_127 rfl (tyX10_ok 6 (by decide)) dX10_split_120 (MAt.o_ HMu17) (Nat.le_of_ble_eq_true rfl) rfl rfl ?_
            obtain ⟨hu18, eu18, HMu18, HOu18⟩ := mo_o HMu17 HOu17 s.cd s.n s.sz (s.wn + 1) s.at_ s.wr s.ru s.dn s.lm s.st s.fr s.up
            refine Blk.eqs ?_ rfl rfl eu18
            replace HMu18 : MAt hu18 x0 (MV.u_wn (MV.u_wt (MV.u_wf s (va_up s.wf s.wn x2)) (va_up s.wt s.wn x1)) (s.wn + 1)) := HMu18
            show Blk g M_X10_split (pM x0 h0 nx Q) 123 [(0, .ref x0), (1, .int (nI x1)), (2, .int (nI x2))] [] hu18 nx 0 0
            refine r_goto (tgt := 7) dX10_split_123 (by decide) ?_
            exact Blk.sub [0, 1] rfl (V _ _ _ HOu18 HMu18)
        · have V := V.2 c
          refine r_iincN 1 (b := 1) (L' := [(1, .int (nI (x1 + 1))), (0, .ref x0), (2, .int (nI x2))]) dX10_split_76 rfl rfl (by decide) rfl ?_
          refine r_goto (tgt := 20) dX10_split_79 (by decide) ?_
          exact Blk.sub [1, 0, 2] rfl (V _ _ _ HO HM)
    · have V := V.2 c
      refine r_aload_n 0 dX10_split_40 rfl rfl ?_
      refine r_getf (ci := 11) (kf := 4) (T := TX10) rfl in_X10 (by decide) wF_X10_16 dX10_split_41 (MAt.o_ HM) rfl ?_
      refine r_iload_n 1 dX10_split_44 rfl rfl ?_
      obtain ⟨c, V⟩ := V
      refine r_iald dX10_split_45 (MAt.g_tx HM) rfl c (by decide) ?_
      show Blk g M_X10_split (pM x0 h0 nx Q) 46 [(0, .ref x0), (1, .int (nI x1)), (2, .int (nI x2))] [.int (nI (s.tx x1))] h nx 0 0
      refine r_callS (M2 := M_X10_isDigit) (n := 1) (As := [.int (nI (s.tx x1))]) (wl4 wM_X10_130 ws_X10_isDigit wI_StateSharesModel wc_X10_isDigit) (by decide +kernel) (by decide) rfl rfl (Nat.le_of_ble_eq_true rfl) dX10_split_46 (by decide) (by decide) (Ct.imp (V _ _) (fun r h19 n20 V => ?_))
      obtain ⟨rfl, rfl, V⟩ := V
      obtain ⟨v21, rfl, V⟩ := V
      show Blk g M_X10_split (pM x0 h0 nx Q) 49 [(0, .ref x0), (1, .int (nI x1)), (2, .int (nI x2))] [.int (nI v21)] h nx 0 0
      obtain ⟨c, V⟩ := V
      refine r_if_neN (tgt := 76) dX10_split_49 (by decide) c (fun c => ?_) (fun c => ?_)
      · have V := V.1 c
        refine r_iincN 1 (b := 1) (L' := [(1, .int (nI (x1 + 1))), (0, .ref x0), (2, .int (nI x2))]) dX10_split_76 rfl rfl (by decide) rfl ?_
        refine r_goto (tgt := 20) dX10_split_79 (by decide) ?_
        exact Blk.sub [1, 0, 2] rfl (V _ _ _ HO HM)
      · have V := V.2 c
        refine r_aload_n 0 dX10_split_52 rfl rfl ?_
        refine r_getf (ci := 11) (kf := 4) (T := TX10) rfl in_X10 (by decide) wF_X10_16 dX10_split_53 (MAt.o_ HM) rfl ?_
        refine r_iload_n 2 dX10_split_56 rfl rfl ?_
        obtain ⟨c, V⟩ := V
        refine r_iald dX10_split_57 (MAt.g_tx HM) rfl c (by decide) ?_
        show Blk g M_X10_split (pM x0 h0 nx Q) 58 [(0, .ref x0), (1, .int (nI x1)), (2, .int (nI x2))] [.int (nI (s.tx x2))] h nx 0 0
        refine r_callS (M2 := M_X10_isLetter) (n := 1) (As := [.int (nI (s.tx x2))]) (wl4 wM_X10_133 ws_X10_isLetter wI_StateSharesModel wc_X10_isLetter) (by decide +kernel) (by decide) rfl rfl (Nat.le_of_ble_eq_true rfl) dX10_split_58 (by decide) (by decide) (Ct.imp (V _ _) (fun r h22 n23 V => ?_))
        obtain ⟨rfl, rfl, V⟩ := V
        obtain ⟨v24, rfl, V⟩ := V
        show Blk g M_X10_split (pM x0 h0 nx Q) 61 [(0, .ref x0), (1, .int (nI x1)), (2, .int (nI x2))] [.int (nI v24)] h nx 0 0
        obtain ⟨c, V⟩ := V
        refine r_if_eqN (tgt := 82) dX10_split_61 (by decide) c (fun c => ?_) (fun c => ?_)
        · have V := V.1 c
          refine r_aload_n 0 dX10_split_82 rfl rfl ?_
          refine r_getf (ci := 11) (kf := 4) (T := TX10) rfl in_X10 (by decide) wF_X10_16 dX10_split_83 (MAt.o_ HM) rfl ?_
          refine r_iload_n 2 dX10_split_86 rfl rfl ?_
          obtain ⟨c, V⟩ := V
          refine r_iald dX10_split_87 (MAt.g_tx HM) rfl c (by decide) ?_
          show Blk g M_X10_split (pM x0 h0 nx Q) 88 [(0, .ref x0), (1, .int (nI x1)), (2, .int (nI x2))] [.int (nI (s.tx x2))] h nx 0 0
          refine r_bipush (v := (nI 32)) dX10_split_88 rfl ?_
          obtain ⟨c, V⟩ := V
          refine r_icmp_eqN (tgt := 123) dX10_split_90 (by decide) c (fun c => ?_) (fun c => ?_)
          · have V := V.1 c
            refine r_goto (tgt := 7) dX10_split_123 (by decide) ?_
            exact Blk.sub [0, 1] rfl (V _ _ _ HO HM)
          · have V := V.2 c
            refine r_aload_n 0 dX10_split_93 rfl rfl ?_
            refine r_getf (ci := 11) (kf := 7) (T := TX10) rfl in_X10 (by decide) wF_X10_19 dX10_split_94 (MAt.o_ HM) rfl ?_
            refine r_aload_n 0 dX10_split_97 rfl rfl ?_
            refine r_getf (ci := 11) (kf := 6) (T := TX10) rfl in_X10 (by decide) wF_X10_127 dX10_split_98 (MAt.o_ HM) rfl ?_
            refine r_iload_n 2 dX10_split_101 rfl rfl ?_
            obtain ⟨c, V⟩ := V
            refine r_iastN dX10_split_102 (MAt.g_wf HM) c (by decide) ?_
            obtain ⟨hu25, eu25, HMu25, HOu25⟩ := mo_wf HM HO (va_up s.wf s.wn x2)
            refine Blk.eqs ?_ rfl rfl eu25
            replace HMu25 : MAt hu25 x0 (MV.u_wf s (va_up s.wf s.wn x2)) := HMu25
            show Blk g M_X10_split (pM x0 h0 nx Q) 103 [(0, .ref x0), (1, .int (nI x1)), (2, .int (nI x2))] [] hu25 nx 0 0
            refine r_aload_n 0 dX10_split_103 rfl rfl ?_
            refine r_getf (ci := 11) (kf := 8) (T := TX10) rfl in_X10 (by decide) wF_X10_22 dX10_split_104 (MAt.o_ HMu25) rfl ?_
            show Blk g M_X10_split (pM x0 h0 nx Q) 107 [(0, .ref x0), (1, .int (nI x1)), (2, .int (nI x2))] [.ref (x0 + 5)] hu25 nx 0 0
            refine r_aload_n 0 dX10_split_107 rfl rfl ?_
            refine r_getf (ci := 11) (kf := 6) (T := TX10) rfl in_X10 (by decide) wF_X10_127 dX10_split_108 (MAt.o_ HMu25) rfl ?_
            show Blk g M_X10_split (pM x0 h0 nx Q) 111 [(0, .ref x0), (1, .int (nI x1)), (2, .int (nI x2))] [.int (nI s.wn), .ref (x0 + 5)] hu25 nx 0 0
            refine r_iload_n 1 dX10_split_111 rfl rfl ?_
            obtain ⟨c, V⟩ := V
            refine r_iastN dX10_split_112 (MAt.g_wt HMu25) c (by decide) ?_
            obtain ⟨hu26, eu26, HMu26, HOu26⟩ := mo_wt HMu25 HOu25 (va_up s.wt s.wn x1)
            refine Blk.eqs ?_ rfl rfl eu26
            replace HMu26 : MAt hu26 x0 (MV.u_wt (MV.u_wf s (va_up s.wf s.wn x2)) (va_up s.wt s.wn x1)) := HMu26
            show Blk g M_X10_split (pM x0 h0 nx Q) 113 [(0, .ref x0), (1, .int (nI x1)), (2, .int (nI x2))] [] hu26 nx 0 0
            refine r_aload_n 0 dX10_split_113 rfl rfl ?_
            refine r_dup dX10_split_114 rfl ?_
            refine r_getf (ci := 11) (kf := 6) (T := TX10) rfl in_X10 (by decide) wF_X10_127 dX10_split_115 (MAt.o_ HMu26) rfl ?_
            show Blk g M_X10_split (pM x0 h0 nx Q) 118 [(0, .ref x0), (1, .int (nI x1)), (2, .int (nI x2))] [.int (nI s.wn), .ref x0] hu26 nx 0 0
            refine r_iconst (v := (nI 1)) dX10_split_118 rfl ?_
            refine r_iaddN dX10_split_119 ?_
            refine r_putf (ci := 11) (kf := 6) (T := TX10) rfl in_X10 tyX10_ok nmX10 (by decide) wF_X10_127 rfl (tyX10_ok 6 (by decide)) dX10_split_120 (MAt.o_ HMu26) (Nat.le_of_ble_eq_true rfl) rfl rfl ?_
            obtain ⟨hu27, eu27, HMu27, HOu27⟩ := mo_o HMu26 HOu26 s.cd s.n s.sz (s.wn + 1) s.at_ s.wr s.ru s.dn s.lm s.st s.fr s.up
            refine Blk.eqs ?_ rfl rfl eu27
            replace HMu27 : MAt hu27 x0 (MV.u_wn (MV.u_wt (MV.u_wf s (va_up s.wf s.wn x2)) (va_up s.wt s.wn x1)) (s.wn + 1)) := HMu27
            show Blk g M_X10_split (pM x0 h0 nx Q) 123 [(0, .ref x0), (1, .int (nI x1)), (2, .int (nI x2))] [] hu27 nx 0 0
            refine r_goto (tgt := 7) dX10_split_123 (by decide) ?_
            exact Blk.sub [0, 1] rfl (V _ _ _ HOu27 HMu27)
        · have V := V.2 c
          refine r_aload_n 0 dX10_split_64 rfl rfl ?_
          refine r_getf (ci := 11) (kf := 4) (T := TX10) rfl in_X10 (by decide) wF_X10_16 dX10_split_65 (MAt.o_ HM) rfl ?_
          refine r_iload_n 1 dX10_split_68 rfl rfl ?_
          obtain ⟨c, V⟩ := V
          refine r_iald dX10_split_69 (MAt.g_tx HM) rfl c (by decide) ?_
          show Blk g M_X10_split (pM x0 h0 nx Q) 70 [(0, .ref x0), (1, .int (nI x1)), (2, .int (nI x2))] [.int (nI (s.tx x1))] h nx 0 0
          refine r_callS (M2 := M_X10_isLetter) (n := 1) (As := [.int (nI (s.tx x1))]) (wl4 wM_X10_133 ws_X10_isLetter wI_StateSharesModel wc_X10_isLetter) (by decide +kernel) (by decide) rfl rfl (Nat.le_of_ble_eq_true rfl) dX10_split_70 (by decide) (by decide) (Ct.imp (V _ _) (fun r h28 n29 V => ?_))
          obtain ⟨rfl, rfl, V⟩ := V
          obtain ⟨v30, rfl, V⟩ := V
          show Blk g M_X10_split (pM x0 h0 nx Q) 73 [(0, .ref x0), (1, .int (nI x1)), (2, .int (nI x2))] [.int (nI v30)] h nx 0 0
          obtain ⟨c, V⟩ := V
          refine r_if_eqN (tgt := 82) dX10_split_73 (by decide) c (fun c => ?_) (fun c => ?_)
          · have V := V.1 c
            refine r_aload_n 0 dX10_split_82 rfl rfl ?_
            refine r_getf (ci := 11) (kf := 4) (T := TX10) rfl in_X10 (by decide) wF_X10_16 dX10_split_83 (MAt.o_ HM) rfl ?_
            refine r_iload_n 2 dX10_split_86 rfl rfl ?_
            obtain ⟨c, V⟩ := V
            refine r_iald dX10_split_87 (MAt.g_tx HM) rfl c (by decide) ?_
            show Blk g M_X10_split (pM x0 h0 nx Q) 88 [(0, .ref x0), (1, .int (nI x1)), (2, .int (nI x2))] [.int (nI (s.tx x2))] h nx 0 0
            refine r_bipush (v := (nI 32)) dX10_split_88 rfl ?_
            obtain ⟨c, V⟩ := V
            refine r_icmp_eqN (tgt := 123) dX10_split_90 (by decide) c (fun c => ?_) (fun c => ?_)
            · have V := V.1 c
              refine r_goto (tgt := 7) dX10_split_123 (by decide) ?_
              exact Blk.sub [0, 1] rfl (V _ _ _ HO HM)
            · have V := V.2 c
              refine r_aload_n 0 dX10_split_93 rfl rfl ?_
              refine r_getf (ci := 11) (kf := 7) (T := TX10) rfl in_X10 (by decide) wF_X10_19 dX10_split_94 (MAt.o_ HM) rfl ?_
              refine r_aload_n 0 dX10_split_97 rfl rfl ?_
              refine r_getf (ci := 11) (kf := 6) (T := TX10) rfl in_X10 (by decide) wF_X10_127 dX10_split_98 (MAt.o_ HM) rfl ?_
              refine r_iload_n 2 dX10_split_101 rfl rfl ?_
              obtain ⟨c, V⟩ := V
              refine r_iastN dX10_split_102 (MAt.g_wf HM) c (by decide) ?_
              obtain ⟨hu31, eu31, HMu31, HOu31⟩ := mo_wf HM HO (va_up s.wf s.wn x2)
              refine Blk.eqs ?_ rfl rfl eu31
              replace HMu31 : MAt hu31 x0 (MV.u_wf s (va_up s.wf s.wn x2)) := HMu31
              show Blk g M_X10_split (pM x0 h0 nx Q) 103 [(0, .ref x0), (1, .int (nI x1)), (2, .int (nI x2))] [] hu31 nx 0 0
              refine r_aload_n 0 dX10_split_103 rfl rfl ?_
              refine r_getf (ci := 11) (kf := 8) (T := TX10) rfl in_X10 (by decide) wF_X10_22 dX10_split_104 (MAt.o_ HMu31) rfl ?_
              show Blk g M_X10_split (pM x0 h0 nx Q) 107 [(0, .ref x0), (1, .int (nI x1)), (2, .int (nI x2))] [.ref (x0 + 5)] hu31 nx 0 0
              refine r_aload_n 0 dX10_split_107 rfl rfl ?_
              refine r_getf (ci := 11) (kf := 6) (T := TX10) rfl in_X10 (by decide) wF_X10_127 dX10_split_108 (MAt.o_ HMu31) rfl ?_
              show Blk g M_X10_split (pM x0 h0 nx Q) 111 [(0, .ref x0), (1, .int (nI x1)), (2, .int (nI x2))] [.int (nI s.wn), .ref (x0 + 5)] hu31 nx 0 0
              refine r_iload_n 1 dX10_split_111 rfl rfl ?_
              obtain ⟨c, V⟩ := V
              refine r_iastN dX10_split_112 (MAt.g_wt HMu31) c (by decide) ?_
              obtain ⟨hu32, eu32, HMu32, HOu32⟩ := mo_wt HMu31 HOu31 (va_up s.wt s.wn x1)
              refine Blk.eqs ?_ rfl rfl eu32
              replace HMu32 : MAt hu32 x0 (MV.u_wt (MV.u_wf s (va_up s.wf s.wn x2)) (va_up s.wt s.wn x1)) := HMu32
              show Blk g M_X10_split (pM x0 h0 nx Q) 113 [(0, .ref x0), (1, .int (nI x1)), (2, .int (nI x2))] [] hu32 nx 0 0
              refine r_aload_n 0 dX10_split_113 rfl rfl ?_
              refine r_dup dX10_split_114 rfl ?_
              refine r_getf (ci := 11) (kf := 6) (T := TX10) rfl in_X10 (by decide) wF_X10_127 dX10_split_115 (MAt.o_ HMu32) rfl ?_
              show Blk g M_X10_split (pM x0 h0 nx Q) 118 [(0, .ref x0), (1, .int (nI x1)), (2, .int (nI x2))] [.int (nI s.wn), .ref x0] hu32 nx 0 0
              refine r_iconst (v := (nI 1)) dX10_split_118 rfl ?_
              refine r_iaddN dX10_split_119 ?_
              refine r_putf (ci := 11) (kf := 6) (T := TX10) rfl in_X10 tyX10_ok nmX10 (by decide) wF_X10_127 rfl (tyX10_ok 6 (by decide)) dX10_split_120 (MAt.o_ HMu32) (Nat.le_of_ble_eq_true rfl) rfl rfl ?_
              obtain ⟨hu33, eu33, HMu33, HOu33⟩ := mo_o HMu32 HOu32 s.cd s.n s.sz (s.wn + 1) s.at_ s.wr s.ru s.dn s.lm s.st s.fr s.up
              refine Blk.eqs ?_ rfl rfl eu33
              replace HMu33 : MAt hu33 x0 (MV.u_wn (MV.u_wt (MV.u_wf s (va_up s.wf s.wn x2)) (va_up s.wt s.wn x1)) (s.wn + 1)) := HMu33
              show Blk g M_X10_split (pM x0 h0 nx Q) 123 [(0, .ref x0), (1, .int (nI x1)), (2, .int (nI x2))] [] hu33 nx 0 0
              refine r_goto (tgt := 7) dX10_split_123 (by decide) ?_
              exact Blk.sub [0, 1] rfl (V _ _ _ HOu33 HMu33)
          · have V := V.2 c
            refine r_iincN 1 (b := 1) (L' := [(1, .int (nI (x1 + 1))), (0, .ref x0), (2, .int (nI x2))]) dX10_split_76 rfl rfl (by decide) rfl ?_
            refine r_goto (tgt := 20) dX10_split_79 (by decide) ?_
            exact Blk.sub [1, 0, 2] rfl (V _ _ _ HO HM)
set_option maxRecDepth 20000 in
theorem v_X10_is_0 {g : xG} {Q : mQ} {s : MV} {x0 : Nat} {x1 : Nat} {x2 : Nat} {x3 : Nat} (V : ((s.at_ < 2 ^ 31 ∧ s.wn < 2 ^ 31) ∧ ((s.wn ≤ s.at_ → ((s.at_ < 2 ^ 31 ∧ s.wn < 2 ^ 31) ∧ ((s.wn ≤ s.at_ → BlkM g M_X10_is x0 Q 55 [(0, .ref x0), (1, .int (nI x1)), (2, .int (nI x2)), (3, .int (nI x3)), (4, .int (nI 0)), (5, .int (nI 0))] [] s) ∧ (s.at_ < s.wn → (s.at_ < 121 ∧ (0 ≤ (s.wt s.at_) ∧ BlkM g M_X10_is x0 Q 55 [(0, .ref x0), (1, .int (nI x1)), (2, .int (nI x2)), (3, .int (nI x3)), (4, .int (nI 0)), (5, .int (nI ((s.wt s.at_) - 0)))] [] s)))))) ∧ (s.at_ < s.wn → (s.at_ < 121 ∧ ((s.at_ < 2 ^ 31 ∧ s.wn < 2 ^ 31) ∧ ((s.wn ≤ s.at_ → BlkM g M_X10_is x0 Q 55 [(0, .ref x0), (1, .int (nI x1)), (2, .int (nI x2)), (3, .int (nI x3)), (4, .int (nI (s.wf s.at_))), (5, .int (nI 0))] [] s) ∧ (s.at_ < s.wn → (s.at_ < 121 ∧ ((s.wf s.at_) ≤ (s.wt s.at_) ∧ BlkM g M_X10_is x0 Q 55 [(0, .ref x0), (1, .int (nI x1)), (2, .int (nI x2)), (3, .int (nI x3)), (4, .int (nI (s.wf s.at_))), (5, .int (nI ((s.wt s.at_) - (s.wf s.at_))))] [] s)))))))))) : BlkM g M_X10_is x0 Q 0 [(0, .ref x0), (1, .int (nI x1)), (2, .int (nI x2)), (3, .int (nI x3))] [] s := by
  intro h0 h nx HO HM
  refine r_aload_n 0 dX10_is_0 rfl rfl ?_
  refine r_getf (ci := 11) (kf := 9) (T := TX10) rfl in_X10 (by decide) wF_X10_136 dX10_is_1 (MAt.o_ HM) rfl ?_
  refine r_aload_n 0 dX10_is_4 rfl rfl ?_
  refine r_getf (ci := 11) (kf := 6) (T := TX10) rfl in_X10 (by decide) wF_X10_127 dX10_is_5 (MAt.o_ HM) rfl ?_
  obtain ⟨c, V⟩ := V
  refine r_icmp_geN (tgt := 23) dX10_is_8 (by decide) c (fun c => ?_) (fun c => ?_)
  · have V := V.1 c
    refine r_iconst (v := (nI 0)) dX10_is_23 rfl ?_
    refine r_istore (L' := [(4, .int (nI 0)), (0, .ref x0), (1, .int (nI x1)), (2, .int (nI x2)), (3, .int (nI x3))]) dX10_is_24 (by decide) rfl ?_
    refine r_aload_n 1 dX10_is_26 rfl rfl ?_
    refine r_getf (ci := 11) (kf := 9) (T := TX10) rfl in_X10 (by decide) wF_X10_136 dX10_is_27 (MAt.o_ HM) rfl ?_
    refine r_aload_n 1 dX10_is_30 rfl rfl ?_
    refine r_getf (ci := 11) (kf := 6) (T := TX10) rfl in_X10 (by decide) wF_X10_127 dX10_is_31 (MAt.o_ HM) rfl ?_
    obtain ⟨c, V⟩ := V
    refine r_icmp_geN (tgt := 52) dX10_is_34 (by decide) c (fun c => ?_) (fun c => ?_)
    · have V := V.1 c
      refine r_iconst (v := (nI 0)) dX10_is_52 rfl ?_
      refine r_istore (L' := [(5, .int (nI 0)), (4, .int (nI 0)), (0, .ref x0), (1, .int (nI x1)), (2, .int (nI x2)), (3, .int (nI x3))]) dX10_is_53 (by decide) rfl ?_
      exact Blk.sub [2, 3, 4, 5, 1, 0] rfl (V _ _ _ HO HM)
    · have V := V.2 c
      refine r_aload_n 1 dX10_is_37 rfl rfl ?_
      refine r_getf (ci := 11) (kf := 8) (T := TX10) rfl in_X10 (by decide) wF_X10_22 dX10_is_38 (MAt.o_ HM) rfl ?_
      refine r_aload_n 1 dX10_is_41 rfl rfl ?_
      refine r_getf (ci := 11) (kf := 9) (T := TX10) rfl in_X10 (by decide) wF_X10_136 dX10_is_42 (MAt.o_ HM) rfl ?_
      obtain ⟨c, V⟩ := V
      refine r_iald dX10_is_45 (MAt.g_wt HM) rfl c (by decide) ?_
      show Blk g M_X10_is (pM x0 h0 nx Q) 46 [(4, .int (nI 0)), (0, .ref x0), (1, .int (nI x1)), (2, .int (nI x2)), (3, .int (nI x3))] [.int (nI (s.wt s.at_))] h nx 0 0
      refine r_iload 0 dX10_is_46 rfl ?_
      obtain ⟨c, V⟩ := V
      refine r_isubN dX10_is_48 c ?_
      refine r_goto (tgt := 53) dX10_is_49 (by decide) ?_
      refine r_istore (L' := [(5, .int (nI ((s.wt s.at_) - 0))), (4, .int (nI 0)), (0, .ref x0), (1, .int (nI x1)), (2, .int (nI x2)), (3, .int (nI x3))]) dX10_is_53 (by decide) rfl ?_
      exact Blk.sub [2, 3, 4, 5, 1, 0] rfl (V _ _ _ HO HM)
  · have V := V.2 c
    refine r_aload_n 0 dX10_is_11 rfl rfl ?_
    refine r_getf (ci := 11) (kf := 7) (T := TX10) rfl in_X10 (by decide) wF_X10_19 dX10_is_12 (MAt.o_ HM) rfl ?_
    refine r_aload_n 0 dX10_is_15 rfl rfl ?_
    refine r_getf (ci := 11) (kf := 9) (T := TX10) rfl in_X10 (by decide) wF_X10_136 dX10_is_16 (MAt.o_ HM) rfl ?_
    obtain ⟨c, V⟩ := V
    refine r_iald dX10_is_19 (MAt.g_wf HM) rfl c (by decide) ?_
    show Blk g M_X10_is (pM x0 h0 nx Q) 20 [(0, .ref x0), (1, .int (nI x1)), (2, .int (nI x2)), (3, .int (nI x3))] [.int (nI (s.wf s.at_))] h nx 0 0
    refine r_goto (tgt := 24) dX10_is_20 (by decide) ?_
    refine r_istore (L' := [(4, .int (nI (s.wf s.at_))), (0, .ref x0), (1, .int (nI x1)), (2, .int (nI x2)), (3, .int (nI x3))]) dX10_is_24 (by decide) rfl ?_
    refine r_aload_n 1 dX10_is_26 rfl rfl ?_
    refine r_getf (ci := 11) (kf := 9) (T := TX10) rfl in_X10 (by decide) wF_X10_136 dX10_is_27 (MAt.o_ HM) rfl ?_
    refine r_aload_n 1 dX10_is_30 rfl rfl ?_
    refine r_getf (ci := 11) (kf := 6) (T := TX10) rfl in_X10 (by decide) wF_X10_127 dX10_is_31 (MAt.o_ HM) rfl ?_
    obtain ⟨c, V⟩ := V
    refine r_icmp_geN (tgt := 52) dX10_is_34 (by decide) c (fun c => ?_) (fun c => ?_)
    · have V := V.1 c
      refine r_iconst (v := (nI 0)) dX10_is_52 rfl ?_
      refine r_istore (L' := [(5, .int (nI 0)), (4, .int (nI (s.wf s.at_))), (0, .ref x0), (1, .int (nI x1)), (2, .int (nI x2)), (3, .int (nI x3))]) dX10_is_53 (by decide) rfl ?_
      exact Blk.sub [2, 3, 4, 5, 1, 0] rfl (V _ _ _ HO HM)
    · have V := V.2 c
      refine r_aload_n 1 dX10_is_37 rfl rfl ?_
      refine r_getf (ci := 11) (kf := 8) (T := TX10) rfl in_X10 (by decide) wF_X10_22 dX10_is_38 (MAt.o_ HM) rfl ?_
      refine r_aload_n 1 dX10_is_41 rfl rfl ?_
      refine r_getf (ci := 11) (kf := 9) (T := TX10) rfl in_X10 (by decide) wF_X10_136 dX10_is_42 (MAt.o_ HM) rfl ?_
      obtain ⟨c, V⟩ := V
      refine r_iald dX10_is_45 (MAt.g_wt HM) rfl c (by decide) ?_
      show Blk g M_X10_is (pM x0 h0 nx Q) 46 [(4, .int (nI (s.wf s.at_))), (0, .ref x0), (1, .int (nI x1)), (2, .int (nI x2)), (3, .int (nI x3))] [.int (nI (s.wt s.at_))] h nx 0 0
      refine r_iload 0 dX10_is_46 rfl ?_
      obtain ⟨c, V⟩ := V
      refine r_isubN dX10_is_48 c ?_
      refine r_goto (tgt := 53) dX10_is_49 (by decide) ?_
      refine r_istore (L' := [(5, .int (nI ((s.wt s.at_) - (s.wf s.at_)))), (4, .int (nI (s.wf s.at_))), (0, .ref x0), (1, .int (nI x1)), (2, .int (nI x2)), (3, .int (nI x3))]) dX10_is_53 (by decide) rfl ?_
      exact Blk.sub [2, 3, 4, 5, 1, 0] rfl (V _ _ _ HO HM)
set_option maxRecDepth 20000 in
theorem v_X10_is_55 {g : xG} {Q : mQ} {s : MV} {x0 : Nat} {x1 : Nat} {x2 : Nat} {x3 : Nat} {x4 : Nat} {x5 : Nat} (V : (x3 < 2 ^ 31 ∧ ((x3 = 0 → (x2 < 2 ^ 31 ∧ ((x2 = 0 → BlkM g M_X10_is x0 Q 74 [(0, .ref x0), (1, .int (nI x1)), (2, .int (nI x2)), (3, .int (nI x3)), (4, .int (nI x4)), (5, .int (nI x5)), (6, .int (nI 1))] [] s) ∧ (¬ x2 = 0 → BlkM g M_X10_is x0 Q 74 [(0, .ref x0), (1, .int (nI x1)), (2, .int (nI x2)), (3, .int (nI x3)), (4, .int (nI x4)), (5, .int (nI x5)), (6, .int (nI 2))] [] s)))) ∧ (¬ x3 = 0 → BlkM g M_X10_is x0 Q 74 [(0, .ref x0), (1, .int (nI x1)), (2, .int (nI x2)), (3, .int (nI x3)), (4, .int (nI x4)), (5, .int (nI x5)), (6, .int (nI 3))] [] s)))) : BlkM g M_X10_is x0 Q 55 [(0, .ref x0), (1, .int (nI x1)), (2, .int (nI x2)), (3, .int (nI x3)), (4, .int (nI x4)), (5, .int (nI x5))] [] s := by
  intro h0 h nx HO HM
  refine r_iload_n 3 dX10_is_55 rfl rfl ?_
  obtain ⟨c, V⟩ := V
  refine r_if_eqN (tgt := 63) dX10_is_56 (by decide) c (fun c => ?_) (fun c => ?_)
  · have V := V.1 c
    refine r_iload_n 2 dX10_is_63 rfl rfl ?_
    obtain ⟨c, V⟩ := V
    refine r_if_eqN (tgt := 71) dX10_is_64 (by decide) c (fun c => ?_) (fun c => ?_)
    · have V := V.1 c
      refine r_iconst (v := (nI 1)) dX10_is_71 rfl ?_
      refine r_istore (L' := [(6, .int (nI 1)), (0, .ref x0), (1, .int (nI x1)), (2, .int (nI x2)), (3, .int (nI x3)), (4, .int (nI x4)), (5, .int (nI x5))]) dX10_is_72 (by decide) rfl ?_
      exact Blk.sub [1, 2, 3, 4, 5, 6, 0] rfl (V _ _ _ HO HM)
    · have V := V.2 c
      refine r_iconst (v := (nI 2)) dX10_is_67 rfl ?_
      refine r_goto (tgt := 72) dX10_is_68 (by decide) ?_
      refine r_istore (L' := [(6, .int (nI 2)), (0, .ref x0), (1, .int (nI x1)), (2, .int (nI x2)), (3, .int (nI x3)), (4, .int (nI x4)), (5, .int (nI x5))]) dX10_is_72 (by decide) rfl ?_
      exact Blk.sub [1, 2, 3, 4, 5, 6, 0] rfl (V _ _ _ HO HM)
  · have V := V.2 c
    refine r_iconst (v := (nI 3)) dX10_is_59 rfl ?_
    refine r_goto (tgt := 72) dX10_is_60 (by decide) ?_
    refine r_istore (L' := [(6, .int (nI 3)), (0, .ref x0), (1, .int (nI x1)), (2, .int (nI x2)), (3, .int (nI x3)), (4, .int (nI x4)), (5, .int (nI x5))]) dX10_is_72 (by decide) rfl ?_
    exact Blk.sub [1, 2, 3, 4, 5, 6, 0] rfl (V _ _ _ HO HM)
set_option maxRecDepth 20000 in
theorem v_X10_is_74 {g : xG} {Q : mQ} {s : MV} {x0 : Nat} {x1 : Nat} {x2 : Nat} {x3 : Nat} {x4 : Nat} {x5 : Nat} {x6 : Nat} (V : ((x5 < 2 ^ 31 ∧ x6 < 2 ^ 31) ∧ ((¬ x5 = x6 → (Q (some (.int (nI 0))) s)) ∧ (x5 = x6 → (x4 < 120 ∧ (((s.tx x4) < 2 ^ 31 ∧ x1 < 2 ^ 31) ∧ ((¬ (s.tx x4) = x1 → (Q (some (.int (nI 0))) s)) ∧ ((s.tx x4) = x1 → ((x5 < 2 ^ 31 ∧ 2 < 2 ^ 31) ∧ ((x5 < 2 → ((x5 < 2 ^ 31 ∧ 3 < 2 ^ 31) ∧ ((x5 < 3 → (Q (some (.int (nI 1))) s)) ∧ (3 ≤ x5 → ((x4 + 2) < 120 ∧ (((s.tx (x4 + 2)) < 2 ^ 31 ∧ x3 < 2 ^ 31) ∧ ((¬ (s.tx (x4 + 2)) = x3 → (Q (some (.int (nI 0))) s)) ∧ ((s.tx (x4 + 2)) = x3 → (Q (some (.int (nI 1))) s))))))))) ∧ (2 ≤ x5 → ((x4 + 1) < 120 ∧ (((s.tx (x4 + 1)) < 2 ^ 31 ∧ x2 < 2 ^ 31) ∧ ((¬ (s.tx (x4 + 1)) = x2 → (Q (some (.int (nI 0))) s)) ∧ ((s.tx (x4 + 1)) = x2 → ((x5 < 2 ^ 31 ∧ 3 < 2 ^ 31) ∧ ((x5 < 3 → (Q (some (.int (nI 1))) s)) ∧ (3 ≤ x5 → ((x4 + 2) < 120 ∧ (((s.tx (x4 + 2)) < 2 ^ 31 ∧ x3 < 2 ^ 31) ∧ ((¬ (s.tx (x4 + 2)) = x3 → (Q (some (.int (nI 0))) s)) ∧ ((s.tx (x4 + 2)) = x3 → (Q (some (.int (nI 1))) s))))))))))))))))))))))) : BlkM g M_X10_is x0 Q 74 [(0, .ref x0), (1, .int (nI x1)), (2, .int (nI x2)), (3, .int (nI x3)), (4, .int (nI x4)), (5, .int (nI x5)), (6, .int (nI x6))] [] s := by
  intro h0 h nx HO HM
  refine r_iload 5 dX10_is_74 rfl ?_
  refine r_iload 6 dX10_is_76 rfl ?_
  obtain ⟨c, V⟩ := V
  refine r_icmp_neN (tgt := 134) dX10_is_78 (by decide) c (fun c => ?_) (fun c => ?_)
  · have V := V.1 c
    refine r_iconst (v := (nI 0)) dX10_is_134 rfl ?_
    exact r_zret (ty := .boolean) dX10_is_135 rfl rfl (by decide) (by decide) ⟨rfl, HO, _, HM, V⟩
  · have V := V.2 c
    refine r_aload_n 0 dX10_is_81 rfl rfl ?_
    refine r_getf (ci := 11) (kf := 4) (T := TX10) rfl in_X10 (by decide) wF_X10_16 dX10_is_82 (MAt.o_ HM) rfl ?_
    refine r_iload 4 dX10_is_85 rfl ?_
    obtain ⟨c, V⟩ := V
    refine r_iald dX10_is_87 (MAt.g_tx HM) rfl c (by decide) ?_
    show Blk g M_X10_is (pM x0 h0 nx Q) 88 [(0, .ref x0), (1, .int (nI x1)), (2, .int (nI x2)), (3, .int (nI x3)), (4, .int (nI x4)), (5, .int (nI x5)), (6, .int (nI x6))] [.int (nI (s.tx x4))] h nx 0 0
    refine r_iload_n 1 dX10_is_88 rfl rfl ?_
    obtain ⟨c, V⟩ := V
    refine r_icmp_neN (tgt := 134) dX10_is_89 (by decide) c (fun c => ?_) (fun c => ?_)
    · have V := V.1 c
      refine r_iconst (v := (nI 0)) dX10_is_134 rfl ?_
      exact r_zret (ty := .boolean) dX10_is_135 rfl rfl (by decide) (by decide) ⟨rfl, HO, _, HM, V⟩
    · have V := V.2 c
      refine r_iload 5 dX10_is_92 rfl ?_
      refine r_iconst (v := (nI 2)) dX10_is_94 rfl ?_
      obtain ⟨c, V⟩ := V
      refine r_icmp_ltN (tgt := 111) dX10_is_95 (by decide) c (fun c => ?_) (fun c => ?_)
      · have V := V.1 c
        refine r_iload 5 dX10_is_111 rfl ?_
        refine r_iconst (v := (nI 3)) dX10_is_113 rfl ?_
        obtain ⟨c, V⟩ := V
        refine r_icmp_ltN (tgt := 130) dX10_is_114 (by decide) c (fun c => ?_) (fun c => ?_)
        · have V := V.1 c
          refine r_iconst (v := (nI 1)) dX10_is_130 rfl ?_
          refine r_goto (tgt := 135) dX10_is_131 (by decide) ?_
          exact r_zret (ty := .boolean) dX10_is_135 rfl rfl (by decide) (by decide) ⟨rfl, HO, _, HM, V⟩
        · have V := V.2 c
          refine r_aload_n 0 dX10_is_117 rfl rfl ?_
          refine r_getf (ci := 11) (kf := 4) (T := TX10) rfl in_X10 (by decide) wF_X10_16 dX10_is_118 (MAt.o_ HM) rfl ?_
          refine r_iload 4 dX10_is_121 rfl ?_
          refine r_iconst (v := (nI 2)) dX10_is_123 rfl ?_
          refine r_iaddN dX10_is_124 ?_
          obtain ⟨c, V⟩ := V
          refine r_iald dX10_is_125 (MAt.g_tx HM) rfl c (by decide) ?_
          show Blk g M_X10_is (pM x0 h0 nx Q) 126 [(0, .ref x0), (1, .int (nI x1)), (2, .int (nI x2)), (3, .int (nI x3)), (4, .int (nI x4)), (5, .int (nI x5)), (6, .int (nI x6))] [.int (nI (s.tx (x4 + 2)))] h nx 0 0
          refine r_iload_n 3 dX10_is_126 rfl rfl ?_
          obtain ⟨c, V⟩ := V
          refine r_icmp_neN (tgt := 134) dX10_is_127 (by decide) c (fun c => ?_) (fun c => ?_)
          · have V := V.1 c
            refine r_iconst (v := (nI 0)) dX10_is_134 rfl ?_
            exact r_zret (ty := .boolean) dX10_is_135 rfl rfl (by decide) (by decide) ⟨rfl, HO, _, HM, V⟩
          · have V := V.2 c
            refine r_iconst (v := (nI 1)) dX10_is_130 rfl ?_
            refine r_goto (tgt := 135) dX10_is_131 (by decide) ?_
            exact r_zret (ty := .boolean) dX10_is_135 rfl rfl (by decide) (by decide) ⟨rfl, HO, _, HM, V⟩
      · have V := V.2 c
        refine r_aload_n 0 dX10_is_98 rfl rfl ?_
        refine r_getf (ci := 11) (kf := 4) (T := TX10) rfl in_X10 (by decide) wF_X10_16 dX10_is_99 (MAt.o_ HM) rfl ?_
        refine r_iload 4 dX10_is_102 rfl ?_
        refine r_iconst (v := (nI 1)) dX10_is_104 rfl ?_
        refine r_iaddN dX10_is_105 ?_
        obtain ⟨c, V⟩ := V
        refine r_iald dX10_is_106 (MAt.g_tx HM) rfl c (by decide) ?_
        show Blk g M_X10_is (pM x0 h0 nx Q) 107 [(0, .ref x0), (1, .int (nI x1)), (2, .int (nI x2)), (3, .int (nI x3)), (4, .int (nI x4)), (5, .int (nI x5)), (6, .int (nI x6))] [.int (nI (s.tx (x4 + 1)))] h nx 0 0
        refine r_iload_n 2 dX10_is_107 rfl rfl ?_
        obtain ⟨c, V⟩ := V
        refine r_icmp_neN (tgt := 134) dX10_is_108 (by decide) c (fun c => ?_) (fun c => ?_)
        · have V := V.1 c
          refine r_iconst (v := (nI 0)) dX10_is_134 rfl ?_
          exact r_zret (ty := .boolean) dX10_is_135 rfl rfl (by decide) (by decide) ⟨rfl, HO, _, HM, V⟩
        · have V := V.2 c
          refine r_iload 5 dX10_is_111 rfl ?_
          refine r_iconst (v := (nI 3)) dX10_is_113 rfl ?_
          obtain ⟨c, V⟩ := V
          refine r_icmp_ltN (tgt := 130) dX10_is_114 (by decide) c (fun c => ?_) (fun c => ?_)
          · have V := V.1 c
            refine r_iconst (v := (nI 1)) dX10_is_130 rfl ?_
            refine r_goto (tgt := 135) dX10_is_131 (by decide) ?_
            exact r_zret (ty := .boolean) dX10_is_135 rfl rfl (by decide) (by decide) ⟨rfl, HO, _, HM, V⟩
          · have V := V.2 c
            refine r_aload_n 0 dX10_is_117 rfl rfl ?_
            refine r_getf (ci := 11) (kf := 4) (T := TX10) rfl in_X10 (by decide) wF_X10_16 dX10_is_118 (MAt.o_ HM) rfl ?_
            refine r_iload 4 dX10_is_121 rfl ?_
            refine r_iconst (v := (nI 2)) dX10_is_123 rfl ?_
            refine r_iaddN dX10_is_124 ?_
            obtain ⟨c, V⟩ := V
            refine r_iald dX10_is_125 (MAt.g_tx HM) rfl c (by decide) ?_
            show Blk g M_X10_is (pM x0 h0 nx Q) 126 [(0, .ref x0), (1, .int (nI x1)), (2, .int (nI x2)), (3, .int (nI x3)), (4, .int (nI x4)), (5, .int (nI x5)), (6, .int (nI x6))] [.int (nI (s.tx (x4 + 2)))] h nx 0 0
            refine r_iload_n 3 dX10_is_126 rfl rfl ?_
            obtain ⟨c, V⟩ := V
            refine r_icmp_neN (tgt := 134) dX10_is_127 (by decide) c (fun c => ?_) (fun c => ?_)
            · have V := V.1 c
              refine r_iconst (v := (nI 0)) dX10_is_134 rfl ?_
              exact r_zret (ty := .boolean) dX10_is_135 rfl rfl (by decide) (by decide) ⟨rfl, HO, _, HM, V⟩
            · have V := V.2 c
              refine r_iconst (v := (nI 1)) dX10_is_130 rfl ?_
              refine r_goto (tgt := 135) dX10_is_131 (by decide) ?_
              exact r_zret (ty := .boolean) dX10_is_135 rfl rfl (by decide) (by decide) ⟨rfl, HO, _, HM, V⟩
set_option maxRecDepth 20000 in
theorem v_X10_isNumber_0 {g : xG} {Q : mQ} {s : MV} {x0 : Nat} (V : ((s.at_ < 2 ^ 31 ∧ s.wn < 2 ^ 31) ∧ ((s.wn ≤ s.at_ → (Q (some (.int (nI 0))) s)) ∧ (s.at_ < s.wn → (s.at_ < 121 ∧ ((s.wf s.at_) < 120 ∧ (CtP g M_X10_isDigit [.int (nI (s.tx (s.wf s.at_)))] (fun r => ∃ v3 : Nat, r = some (.int (nI v3)) ∧ (v3 < 2 ^ 31 ∧ ((v3 = 0 → (Q (some (.int (nI 0))) s)) ∧ (¬ v3 = 0 → (s.at_ < 121 ∧ (s.at_ < 121 ∧ ((s.wf s.at_) ≤ (s.wt s.at_) ∧ ((((s.wt s.at_) - (s.wf s.at_)) < 2 ^ 31 ∧ 4 < 2 ^ 31) ∧ ((4 ≤ ((s.wt s.at_) - (s.wf s.at_)) → (Q (some (.int (nI 0))) s)) ∧ (((s.wt s.at_) - (s.wf s.at_)) < 4 → (Q (some (.int (nI 1))) s)))))))))))))))))) : BlkM g M_X10_isNumber x0 Q 0 [(0, .ref x0)] [] s := by
  intro h0 h nx HO HM
  refine r_aload_n 0 dX10_isNumber_0 rfl rfl ?_
  refine r_getf (ci := 11) (kf := 9) (T := TX10) rfl in_X10 (by decide) wF_X10_136 dX10_isNumber_1 (MAt.o_ HM) rfl ?_
  refine r_aload_n 0 dX10_isNumber_4 rfl rfl ?_
  refine r_getf (ci := 11) (kf := 6) (T := TX10) rfl in_X10 (by decide) wF_X10_127 dX10_isNumber_5 (MAt.o_ HM) rfl ?_
  obtain ⟨c, V⟩ := V
  refine r_icmp_geN (tgt := 58) dX10_isNumber_8 (by decide) c (fun c => ?_) (fun c => ?_)
  · have V := V.1 c
    refine r_iconst (v := (nI 0)) dX10_isNumber_58 rfl ?_
    exact r_zret (ty := .boolean) dX10_isNumber_59 rfl rfl (by decide) (by decide) ⟨rfl, HO, _, HM, V⟩
  · have V := V.2 c
    refine r_aload_n 0 dX10_isNumber_11 rfl rfl ?_
    refine r_getf (ci := 11) (kf := 4) (T := TX10) rfl in_X10 (by decide) wF_X10_16 dX10_isNumber_12 (MAt.o_ HM) rfl ?_
    refine r_aload_n 0 dX10_isNumber_15 rfl rfl ?_
    refine r_getf (ci := 11) (kf := 7) (T := TX10) rfl in_X10 (by decide) wF_X10_19 dX10_isNumber_16 (MAt.o_ HM) rfl ?_
    refine r_aload_n 0 dX10_isNumber_19 rfl rfl ?_
    refine r_getf (ci := 11) (kf := 9) (T := TX10) rfl in_X10 (by decide) wF_X10_136 dX10_isNumber_20 (MAt.o_ HM) rfl ?_
    obtain ⟨c, V⟩ := V
    refine r_iald dX10_isNumber_23 (MAt.g_wf HM) rfl c (by decide) ?_
    show Blk g M_X10_isNumber (pM x0 h0 nx Q) 24 [(0, .ref x0)] [.int (nI (s.wf s.at_)), .ref (x0 + 3)] h nx 0 0
    obtain ⟨c, V⟩ := V
    refine r_iald dX10_isNumber_24 (MAt.g_tx HM) rfl c (by decide) ?_
    show Blk g M_X10_isNumber (pM x0 h0 nx Q) 25 [(0, .ref x0)] [.int (nI (s.tx (s.wf s.at_)))] h nx 0 0
    refine r_callS (M2 := M_X10_isDigit) (n := 1) (As := [.int (nI (s.tx (s.wf s.at_)))]) (wl4 wM_X10_130 ws_X10_isDigit wI_StateSharesModel wc_X10_isDigit) (by decide +kernel) (by decide) rfl rfl (Nat.le_of_ble_eq_true rfl) dX10_isNumber_25 (by decide) (by decide) (Ct.imp (V _ _) (fun r h1 n2 V => ?_))
    obtain ⟨rfl, rfl, V⟩ := V
    obtain ⟨v3, rfl, V⟩ := V
    show Blk g M_X10_isNumber (pM x0 h0 nx Q) 28 [(0, .ref x0)] [.int (nI v3)] h nx 0 0
    obtain ⟨c, V⟩ := V
    refine r_if_eqN (tgt := 58) dX10_isNumber_28 (by decide) c (fun c => ?_) (fun c => ?_)
    · have V := V.1 c
      refine r_iconst (v := (nI 0)) dX10_isNumber_58 rfl ?_
      exact r_zret (ty := .boolean) dX10_isNumber_59 rfl rfl (by decide) (by decide) ⟨rfl, HO, _, HM, V⟩
    · have V := V.2 c
      refine r_aload_n 0 dX10_isNumber_31 rfl rfl ?_
      refine r_getf (ci := 11) (kf := 8) (T := TX10) rfl in_X10 (by decide) wF_X10_22 dX10_isNumber_32 (MAt.o_ HM) rfl ?_
      refine r_aload_n 0 dX10_isNumber_35 rfl rfl ?_
      refine r_getf (ci := 11) (kf := 9) (T := TX10) rfl in_X10 (by decide) wF_X10_136 dX10_isNumber_36 (MAt.o_ HM) rfl ?_
      obtain ⟨c, V⟩ := V
      refine r_iald dX10_isNumber_39 (MAt.g_wt HM) rfl c (by decide) ?_
      show Blk g M_X10_isNumber (pM x0 h0 nx Q) 40 [(0, .ref x0)] [.int (nI (s.wt s.at_))] h nx 0 0
      refine r_aload_n 0 dX10_isNumber_40 rfl rfl ?_
      refine r_getf (ci := 11) (kf := 7) (T := TX10) rfl in_X10 (by decide) wF_X10_19 dX10_isNumber_41 (MAt.o_ HM) rfl ?_
      refine r_aload_n 0 dX10_isNumber_44 rfl rfl ?_
      refine r_getf (ci := 11) (kf := 9) (T := TX10) rfl in_X10 (by decide) wF_X10_136 dX10_isNumber_45 (MAt.o_ HM) rfl ?_
      obtain ⟨c, V⟩ := V
      refine r_iald dX10_isNumber_48 (MAt.g_wf HM) rfl c (by decide) ?_
      show Blk g M_X10_isNumber (pM x0 h0 nx Q) 49 [(0, .ref x0)] [.int (nI (s.wf s.at_)), .int (nI (s.wt s.at_))] h nx 0 0
      obtain ⟨c, V⟩ := V
      refine r_isubN dX10_isNumber_49 c ?_
      refine r_iconst (v := (nI 4)) dX10_isNumber_50 rfl ?_
      obtain ⟨c, V⟩ := V
      refine r_icmp_geN (tgt := 58) dX10_isNumber_51 (by decide) c (fun c => ?_) (fun c => ?_)
      · have V := V.1 c
        refine r_iconst (v := (nI 0)) dX10_isNumber_58 rfl ?_
        exact r_zret (ty := .boolean) dX10_isNumber_59 rfl rfl (by decide) (by decide) ⟨rfl, HO, _, HM, V⟩
      · have V := V.2 c
        refine r_iconst (v := (nI 1)) dX10_isNumber_54 rfl ?_
        refine r_goto (tgt := 59) dX10_isNumber_55 (by decide) ?_
        exact r_zret (ty := .boolean) dX10_isNumber_59 rfl rfl (by decide) (by decide) ⟨rfl, HO, _, HM, V⟩
set_option maxRecDepth 20000 in
theorem v_X10_number_0 {g : xG} {Q : mQ} {s : MV} {x0 : Nat} (V : (s.wr < 2 ^ 31 ∧ ((¬ s.wr = 0 → (Q (some (.int (-1))) (MV.u_wr s 1))) ∧ (s.wr = 0 → (CtM g M_X10_isNumber [.ref x0] x0 s (fun r s4 => ∃ v5 : Nat, r = some (.int (nI v5)) ∧ (v5 < 2 ^ 31 ∧ ((¬ v5 = 0 → (s4.at_ < 121 ∧ BlkM g M_X10_number x0 Q 33 [(0, .ref x0), (1, .int (nI 0)), (2, .int (nI (s4.wf s4.at_)))] [] s4)) ∧ (v5 = 0 → (Q (some (.int (-1))) (MV.u_wr s4 1))))))))))) : BlkM g M_X10_number x0 Q 0 [(0, .ref x0)] [] s := by
  intro h0 h nx HO HM
  refine r_aload_n 0 dX10_number_0 rfl rfl ?_
  refine r_getf (ci := 11) (kf := 10) (T := TX10) rfl in_X10 (by decide) wF_X10_139 dX10_number_1 (MAt.o_ HM) rfl ?_
  obtain ⟨c, V⟩ := V
  refine r_if_neN (tgt := 14) dX10_number_4 (by decide) c (fun c => ?_) (fun c => ?_)
  · have V := V.1 c
    refine r_aload_n 0 dX10_number_14 rfl rfl ?_
    refine r_iconst (v := (nI 1)) dX10_number_15 rfl ?_
    refine r_putf (ci := 11) (kf := 10) (T := TX10) rfl in_X10 tyX10_ok nmX10 (by decide) wF_X10_139 rfl (tyX10_ok 10 (by decide)) dX10_number_16 (MAt.o_ HM) (Nat.le_of_ble_eq_true rfl) rfl rfl ?_
    obtain ⟨hu1, eu1, HMu1, HOu1⟩ := mo_o HM HO s.cd s.n s.sz s.wn s.at_ 1 s.ru s.dn s.lm s.st s.fr s.up
    refine Blk.eqs ?_ rfl rfl eu1
    replace HMu1 : MAt hu1 x0 (MV.u_wr s 1) := HMu1
    show Blk g M_X10_number (pM x0 h0 nx Q) 19 [(0, .ref x0)] [] hu1 nx 0 0
    refine r_iconst (v := (-1)) dX10_number_19 rfl ?_
    exact r_iret dX10_number_20 rfl (by decide) (by decide) ⟨rfl, HOu1, _, HMu1, V⟩
  · have V := V.2 c
    refine r_aload_n 0 dX10_number_7 rfl rfl ?_
    refine r_callV (M2 := M_X10_isNumber) (ci := 11) (n := 0) (As := []) rfl (wl5 wM_X10_142 wi_X10_isNumber wS_X10_isNumber wI_StateSharesModel wc_X10_isNumber) (by decide +kernel) (by decide) rfl rfl (Nat.le_of_ble_eq_true rfl) dX10_number_8 (MAt.o_ HM) (by decide) (by decide) (Ct.imp (V _ _ HM) (fun r h2 n3 V => ?_))
    obtain ⟨rfl, Oh2, s4, HMh2, V⟩ := V
    have HOh2 := Off.tr HO Oh2
    obtain ⟨v5, rfl, V⟩ := V
    show Blk g M_X10_number (pM x0 h0 nx Q) 11 [(0, .ref x0)] [.int (nI v5)] h2 nx 0 0
    obtain ⟨c, V⟩ := V
    refine r_if_neN (tgt := 21) dX10_number_11 (by decide) c (fun c => ?_) (fun c => ?_)
    · have V := V.1 c
      refine r_iconst (v := (nI 0)) dX10_number_21 rfl ?_
      refine r_istore_n (L' := [(1, .int (nI 0)), (0, .ref x0)]) dX10_number_22 rfl (by decide) rfl ?_
      refine r_aload_n 1 dX10_number_23 rfl rfl ?_
      refine r_getf (ci := 11) (kf := 7) (T := TX10) rfl in_X10 (by decide) wF_X10_19 dX10_number_24 (MAt.o_ HMh2) rfl ?_
      refine r_aload_n 1 dX10_number_27 rfl rfl ?_
      refine r_getf (ci := 11) (kf := 9) (T := TX10) rfl in_X10 (by decide) wF_X10_136 dX10_number_28 (MAt.o_ HMh2) rfl ?_
      obtain ⟨c, V⟩ := V
      refine r_iald dX10_number_31 (MAt.g_wf HMh2) rfl c (by decide) ?_
      show Blk g M_X10_number (pM x0 h0 nx Q) 32 [(1, .int (nI 0)), (0, .ref x0)] [.int (nI (s4.wf s4.at_))] h2 nx 0 0
      refine r_istore_n (L' := [(2, .int (nI (s4.wf s4.at_))), (1, .int (nI 0)), (0, .ref x0)]) dX10_number_32 rfl (by decide) rfl ?_
      exact Blk.sub [2, 1, 0] rfl (V _ _ _ HOh2 HMh2)
    · have V := V.2 c
      refine r_aload_n 0 dX10_number_14 rfl rfl ?_
      refine r_iconst (v := (nI 1)) dX10_number_15 rfl ?_
      refine r_putf (ci := 11) (kf := 10) (T := TX10) rfl in_X10 tyX10_ok nmX10 (by decide) wF_X10_139 rfl (tyX10_ok 10 (by decide)) dX10_number_16 (MAt.o_ HMh2) (Nat.le_of_ble_eq_true rfl) rfl rfl ?_
      obtain ⟨hu6, eu6, HMu6, HOu6⟩ := mo_o HMh2 HOh2 s4.cd s4.n s4.sz s4.wn s4.at_ 1 s4.ru s4.dn s4.lm s4.st s4.fr s4.up
      refine Blk.eqs ?_ rfl rfl eu6
      replace HMu6 : MAt hu6 x0 (MV.u_wr s4 1) := HMu6
      show Blk g M_X10_number (pM x0 h0 nx Q) 19 [(0, .ref x0)] [] hu6 nx 0 0
      refine r_iconst (v := (-1)) dX10_number_19 rfl ?_
      exact r_iret dX10_number_20 rfl (by decide) (by decide) ⟨rfl, HOu6, _, HMu6, V⟩
set_option maxRecDepth 20000 in
theorem v_X10_number_33 {g : xG} {Q : mQ} {s : MV} {x0 : Nat} {x1 : Nat} {x2 : Nat} (V : (s.at_ < 121 ∧ ((x2 < 2 ^ 31 ∧ (s.wt s.at_) < 2 ^ 31) ∧ (((s.wt s.at_) ≤ x2 → (Q (some (.int (nI x1))) (MV.u_at_ s (s.at_ + 1)))) ∧ (x2 < (s.wt s.at_) → (x2 < 120 ∧ (48 ≤ ((10 * x1) + (s.tx x2)) ∧ BlkM g M_X10_number x0 Q 33 [(0, .ref x0), (1, .int (nI (((10 * x1) + (s.tx x2)) - 48))), (2, .int (nI (x2 + 1)))] [] s))))))) : BlkM g M_X10_number x0 Q 33 [(0, .ref x0), (1, .int (nI x1)), (2, .int (nI x2))] [] s := by
  intro h0 h nx HO HM
  refine r_iload_n 2 dX10_number_33 rfl rfl ?_
  refine r_aload_n 0 dX10_number_34 rfl rfl ?_
  refine r_getf (ci := 11) (kf := 8) (T := TX10) rfl in_X10 (by decide) wF_X10_22 dX10_number_35 (MAt.o_ HM) rfl ?_
  refine r_aload_n 0 dX10_number_38 rfl rfl ?_
  refine r_getf (ci := 11) (kf := 9) (T := TX10) rfl in_X10 (by decide) wF_X10_136 dX10_number_39 (MAt.o_ HM) rfl ?_
  obtain ⟨c, V⟩ := V
  refine r_iald dX10_number_42 (MAt.g_wt HM) rfl c (by decide) ?_
  show Blk g M_X10_number (pM x0 h0 nx Q) 43 [(0, .ref x0), (1, .int (nI x1)), (2, .int (nI x2))] [.int (nI (s.wt s.at_)), .int (nI x2)] h nx 0 0
  obtain ⟨c, V⟩ := V
  refine r_icmp_geN (tgt := 67) dX10_number_43 (by decide) c (fun c => ?_) (fun c => ?_)
  · have V := V.1 c
    refine r_aload_n 0 dX10_number_67 rfl rfl ?_
    refine r_dup dX10_number_68 rfl ?_
    refine r_getf (ci := 11) (kf := 9) (T := TX10) rfl in_X10 (by decide) wF_X10_136 dX10_number_69 (MAt.o_ HM) rfl ?_
    refine r_iconst (v := (nI 1)) dX10_number_72 rfl ?_
    refine r_iaddN dX10_number_73 ?_
    refine r_putf (ci := 11) (kf := 9) (T := TX10) rfl in_X10 tyX10_ok nmX10 (by decide) wF_X10_136 rfl (tyX10_ok 9 (by decide)) dX10_number_74 (MAt.o_ HM) (Nat.le_of_ble_eq_true rfl) rfl rfl ?_
    obtain ⟨hu1, eu1, HMu1, HOu1⟩ := mo_o HM HO s.cd s.n s.sz s.wn (s.at_ + 1) s.wr s.ru s.dn s.lm s.st s.fr s.up
    refine Blk.eqs ?_ rfl rfl eu1
    replace HMu1 : MAt hu1 x0 (MV.u_at_ s (s.at_ + 1)) := HMu1
    show Blk g M_X10_number (pM x0 h0 nx Q) 77 [(0, .ref x0), (1, .int (nI x1)), (2, .int (nI x2))] [] hu1 nx 0 0
    refine r_iload_n 1 dX10_number_77 rfl rfl ?_
    exact r_iret dX10_number_78 rfl (by decide) (by decide) ⟨rfl, HOu1, _, HMu1, V⟩
  · have V := V.2 c
    refine r_bipush (v := (nI 10)) dX10_number_46 rfl ?_
    refine r_iload_n 1 dX10_number_48 rfl rfl ?_
    refine r_imulN dX10_number_49 ?_
    refine r_aload_n 0 dX10_number_50 rfl rfl ?_
    refine r_getf (ci := 11) (kf := 4) (T := TX10) rfl in_X10 (by decide) wF_X10_16 dX10_number_51 (MAt.o_ HM) rfl ?_
    refine r_iload_n 2 dX10_number_54 rfl rfl ?_
    obtain ⟨c, V⟩ := V
    refine r_iald dX10_number_55 (MAt.g_tx HM) rfl c (by decide) ?_
    show Blk g M_X10_number (pM x0 h0 nx Q) 56 [(0, .ref x0), (1, .int (nI x1)), (2, .int (nI x2))] [.int (nI (s.tx x2)), .int (nI (10 * x1))] h nx 0 0
    refine r_iaddN dX10_number_56 ?_
    refine r_bipush (v := (nI 48)) dX10_number_57 rfl ?_
    obtain ⟨c, V⟩ := V
    refine r_isubN dX10_number_59 c ?_
    refine r_istore_n (L' := [(1, .int (nI (((10 * x1) + (s.tx x2)) - 48))), (0, .ref x0), (2, .int (nI x2))]) dX10_number_60 rfl (by decide) rfl ?_
    refine r_iincN 2 (b := 1) (L' := [(2, .int (nI (x2 + 1))), (1, .int (nI (((10 * x1) + (s.tx x2)) - 48))), (0, .ref x0)]) dX10_number_61 rfl rfl (by decide) rfl ?_
    refine r_goto (tgt := 33) dX10_number_64 (by decide) ?_
    exact Blk.sub [2, 1, 0] rfl (V _ _ _ HO HM)
set_option maxRecDepth 20000 in
theorem v_X10_sortHere_0 {g : xG} {Q : mQ} {s : MV} {x0 : Nat} (V : (CtM g M_X10_is [.ref x0, .int (nI 109), .int (nI 97), .int (nI 120)] x0 s (fun r s3 => ∃ v4 : Nat, r = some (.int (nI v4)) ∧ (v4 < 2 ^ 31 ∧ ((v4 = 0 → (CtM g M_X10_is [.ref x0, .int (nI 109), .int (nI 105), .int (nI 110)] x0 s3 (fun r s7 => ∃ v8 : Nat, r = some (.int (nI v8)) ∧ (v8 < 2 ^ 31 ∧ ((v8 = 0 → (CtM g M_X10_is [.ref x0, .int (nI 109), .int (nI 105), .int (nI 100)] x0 s7 (fun r s11 => ∃ v12 : Nat, r = some (.int (nI v12)) ∧ (v12 < 2 ^ 31 ∧ ((v12 = 0 → (CtM g M_X10_is [.ref x0, .int (nI 110), .int (nI 0), .int (nI 0)] x0 s11 (fun r s15 => ∃ v16 : Nat, r = some (.int (nI v16)) ∧ (v16 < 2 ^ 31 ∧ ((v16 = 0 → (CtM g M_X10_is [.ref x0, .int (nI 35), .int (nI 0), .int (nI 0)] x0 s15 (fun r s19 => ∃ v20 : Nat, r = some (.int (nI v20)) ∧ (v20 < 2 ^ 31 ∧ ((v20 = 0 → (Q (some (.int (nI 0))) s19)) ∧ (¬ v20 = 0 → (Q (some (.int (nI 4))) s19))))))) ∧ (¬ v16 = 0 → (Q (some (.int (nI 1))) s15))))))) ∧ (¬ v12 = 0 → (Q (some (.int (nI 5))) s11))))))) ∧ (¬ v8 = 0 → (Q (some (.int (nI 3))) s7))))))) ∧ (¬ v4 = 0 → (Q (some (.int (nI 2))) s3))))))) : BlkM g M_X10_sortHere x0 Q 0 [(0, .ref x0)] [] s := by
  intro h0 h nx HO HM
  refine r_aload_n 0 dX10_sortHere_0 rfl rfl ?_
  refine r_bipush (v := (nI 109)) dX10_sortHere_1 rfl ?_
  refine r_bipush (v := (nI 97)) dX10_sortHere_3 rfl ?_
  refine r_bipush (v := (nI 120)) dX10_sortHere_5 rfl ?_
  refine r_callV (M2 := M_X10_is) (ci := 11) (n := 3) (As := [.int (nI 109), .int (nI 97), .int (nI 120)]) rfl (wl5 wM_X10_146 wi_X10_is wS_X10_is wI_StateSharesModel wc_X10_is) (by decide +kernel) (by decide) rfl rfl (Nat.le_of_ble_eq_true rfl) dX10_sortHere_7 (MAt.o_ HM) (by decide) (by decide) (Ct.imp (V _ _ HM) (fun r h1 n2 V => ?_))
  obtain ⟨rfl, Oh1, s3, HMh1, V⟩ := V
  have HOh1 := Off.tr HO Oh1
  obtain ⟨v4, rfl, V⟩ := V
  show Blk g M_X10_sortHere (pM x0 h0 nx Q) 10 [(0, .ref x0)] [.int (nI v4)] h1 nx 0 0
  obtain ⟨c, V⟩ := V
  refine r_if_eqN (tgt := 17) dX10_sortHere_10 (by decide) c (fun c => ?_) (fun c => ?_)
  · have V := V.1 c
    refine r_aload_n 0 dX10_sortHere_17 rfl rfl ?_
    refine r_bipush (v := (nI 109)) dX10_sortHere_18 rfl ?_
    refine r_bipush (v := (nI 105)) dX10_sortHere_20 rfl ?_
    refine r_bipush (v := (nI 110)) dX10_sortHere_22 rfl ?_
    refine r_callV (M2 := M_X10_is) (ci := 11) (n := 3) (As := [.int (nI 109), .int (nI 105), .int (nI 110)]) rfl (wl5 wM_X10_146 wi_X10_is wS_X10_is wI_StateSharesModel wc_X10_is) (by decide +kernel) (by decide) rfl rfl (Nat.le_of_ble_eq_true rfl) dX10_sortHere_24 (MAt.o_ HMh1) (by decide) (by decide) (Ct.imp (V _ _ HMh1) (fun r h5 n6 V => ?_))
    obtain ⟨rfl, Oh5, s7, HMh5, V⟩ := V
    have HOh5 := Off.tr HOh1 Oh5
    obtain ⟨v8, rfl, V⟩ := V
    show Blk g M_X10_sortHere (pM x0 h0 nx Q) 27 [(0, .ref x0)] [.int (nI v8)] h5 nx 0 0
    obtain ⟨c, V⟩ := V
    refine r_if_eqN (tgt := 34) dX10_sortHere_27 (by decide) c (fun c => ?_) (fun c => ?_)
    · have V := V.1 c
      refine r_aload_n 0 dX10_sortHere_34 rfl rfl ?_
      refine r_bipush (v := (nI 109)) dX10_sortHere_35 rfl ?_
      refine r_bipush (v := (nI 105)) dX10_sortHere_37 rfl ?_
      refine r_bipush (v := (nI 100)) dX10_sortHere_39 rfl ?_
      refine r_callV (M2 := M_X10_is) (ci := 11) (n := 3) (As := [.int (nI 109), .int (nI 105), .int (nI 100)]) rfl (wl5 wM_X10_146 wi_X10_is wS_X10_is wI_StateSharesModel wc_X10_is) (by decide +kernel) (by decide) rfl rfl (Nat.le_of_ble_eq_true rfl) dX10_sortHere_41 (MAt.o_ HMh5) (by decide) (by decide) (Ct.imp (V _ _ HMh5) (fun r h9 n10 V => ?_))
      obtain ⟨rfl, Oh9, s11, HMh9, V⟩ := V
      have HOh9 := Off.tr HOh5 Oh9
      obtain ⟨v12, rfl, V⟩ := V
      show Blk g M_X10_sortHere (pM x0 h0 nx Q) 44 [(0, .ref x0)] [.int (nI v12)] h9 nx 0 0
      obtain ⟨c, V⟩ := V
      refine r_if_eqN (tgt := 51) dX10_sortHere_44 (by decide) c (fun c => ?_) (fun c => ?_)
      · have V := V.1 c
        refine r_aload_n 0 dX10_sortHere_51 rfl rfl ?_
        refine r_bipush (v := (nI 110)) dX10_sortHere_52 rfl ?_
        refine r_iconst (v := (nI 0)) dX10_sortHere_54 rfl ?_
        refine r_iconst (v := (nI 0)) dX10_sortHere_55 rfl ?_
        refine r_callV (M2 := M_X10_is) (ci := 11) (n := 3) (As := [.int (nI 110), .int (nI 0), .int (nI 0)]) rfl (wl5 wM_X10_146 wi_X10_is wS_X10_is wI_StateSharesModel wc_X10_is) (by decide +kernel) (by decide) rfl rfl (Nat.le_of_ble_eq_true rfl) dX10_sortHere_56 (MAt.o_ HMh9) (by decide) (by decide) (Ct.imp (V _ _ HMh9) (fun r h13 n14 V => ?_))
        obtain ⟨rfl, Oh13, s15, HMh13, V⟩ := V
        have HOh13 := Off.tr HOh9 Oh13
        obtain ⟨v16, rfl, V⟩ := V
        show Blk g M_X10_sortHere (pM x0 h0 nx Q) 59 [(0, .ref x0)] [.int (nI v16)] h13 nx 0 0
        obtain ⟨c, V⟩ := V
        refine r_if_eqN (tgt := 66) dX10_sortHere_59 (by decide) c (fun c => ?_) (fun c => ?_)
        · have V := V.1 c
          refine r_aload_n 0 dX10_sortHere_66 rfl rfl ?_
          refine r_bipush (v := (nI 35)) dX10_sortHere_67 rfl ?_
          refine r_iconst (v := (nI 0)) dX10_sortHere_69 rfl ?_
          refine r_iconst (v := (nI 0)) dX10_sortHere_70 rfl ?_
          refine r_callV (M2 := M_X10_is) (ci := 11) (n := 3) (As := [.int (nI 35), .int (nI 0), .int (nI 0)]) rfl (wl5 wM_X10_146 wi_X10_is wS_X10_is wI_StateSharesModel wc_X10_is) (by decide +kernel) (by decide) rfl rfl (Nat.le_of_ble_eq_true rfl) dX10_sortHere_71 (MAt.o_ HMh13) (by decide) (by decide) (Ct.imp (V _ _ HMh13) (fun r h17 n18 V => ?_))
          obtain ⟨rfl, Oh17, s19, HMh17, V⟩ := V
          have HOh17 := Off.tr HOh13 Oh17
          obtain ⟨v20, rfl, V⟩ := V
          show Blk g M_X10_sortHere (pM x0 h0 nx Q) 74 [(0, .ref x0)] [.int (nI v20)] h17 nx 0 0
          obtain ⟨c, V⟩ := V
          refine r_if_eqN (tgt := 81) dX10_sortHere_74 (by decide) c (fun c => ?_) (fun c => ?_)
          · have V := V.1 c
            refine r_iconst (v := (nI 0)) dX10_sortHere_81 rfl ?_
            exact r_iret dX10_sortHere_82 rfl (by decide) (by decide) ⟨rfl, HOh17, _, HMh17, V⟩
          · have V := V.2 c
            refine r_iconst (v := (nI 4)) dX10_sortHere_77 rfl ?_
            refine r_goto (tgt := 82) dX10_sortHere_78 (by decide) ?_
            exact r_iret dX10_sortHere_82 rfl (by decide) (by decide) ⟨rfl, HOh17, _, HMh17, V⟩
        · have V := V.2 c
          refine r_iconst (v := (nI 1)) dX10_sortHere_62 rfl ?_
          refine r_goto (tgt := 82) dX10_sortHere_63 (by decide) ?_
          exact r_iret dX10_sortHere_82 rfl (by decide) (by decide) ⟨rfl, HOh13, _, HMh13, V⟩
      · have V := V.2 c
        refine r_iconst (v := (nI 5)) dX10_sortHere_47 rfl ?_
        refine r_goto (tgt := 82) dX10_sortHere_48 (by decide) ?_
        exact r_iret dX10_sortHere_82 rfl (by decide) (by decide) ⟨rfl, HOh9, _, HMh9, V⟩
    · have V := V.2 c
      refine r_iconst (v := (nI 3)) dX10_sortHere_30 rfl ?_
      refine r_goto (tgt := 82) dX10_sortHere_31 (by decide) ?_
      exact r_iret dX10_sortHere_82 rfl (by decide) (by decide) ⟨rfl, HOh5, _, HMh5, V⟩
  · have V := V.2 c
    refine r_iconst (v := (nI 2)) dX10_sortHere_13 rfl ?_
    refine r_goto (tgt := 82) dX10_sortHere_14 (by decide) ?_
    exact r_iret dX10_sortHere_82 rfl (by decide) (by decide) ⟨rfl, HOh1, _, HMh1, V⟩
set_option maxRecDepth 20000 in
theorem v_X10_isSignHere_0 {g : xG} {Q : mQ} {s : MV} {x0 : Nat} (V : (CtM g M_X10_is [.ref x0, .int (nI 60), .int (nI 0), .int (nI 0)] x0 s (fun r s3 => ∃ v4 : Nat, r = some (.int (nI v4)) ∧ (v4 < 2 ^ 31 ∧ ((¬ v4 = 0 → (Q (some (.int (nI 1))) s3)) ∧ (v4 = 0 → (CtM g M_X10_is [.ref x0, .int (nI 61), .int (nI 0), .int (nI 0)] x0 s3 (fun r s7 => ∃ v8 : Nat, r = some (.int (nI v8)) ∧ (v8 < 2 ^ 31 ∧ ((¬ v8 = 0 → (Q (some (.int (nI 1))) s7)) ∧ (v8 = 0 → (CtM g M_X10_is [.ref x0, .int (nI 62), .int (nI 0), .int (nI 0)] x0 s7 (fun r s11 => ∃ v12 : Nat, r = some (.int (nI v12)) ∧ (v12 < 2 ^ 31 ∧ ((v12 = 0 → (Q (some (.int (nI 0))) s11)) ∧ (¬ v12 = 0 → (Q (some (.int (nI 1))) s11))))))))))))))))) : BlkM g M_X10_isSignHere x0 Q 0 [(0, .ref x0)] [] s := by
  intro h0 h nx HO HM
  refine r_aload_n 0 dX10_isSignHere_0 rfl rfl ?_
  refine r_bipush (v := (nI 60)) dX10_isSignHere_1 rfl ?_
  refine r_iconst (v := (nI 0)) dX10_isSignHere_3 rfl ?_
  refine r_iconst (v := (nI 0)) dX10_isSignHere_4 rfl ?_
  refine r_callV (M2 := M_X10_is) (ci := 11) (n := 3) (As := [.int (nI 60), .int (nI 0), .int (nI 0)]) rfl (wl5 wM_X10_146 wi_X10_is wS_X10_is wI_StateSharesModel wc_X10_is) (by decide +kernel) (by decide) rfl rfl (Nat.le_of_ble_eq_true rfl) dX10_isSignHere_5 (MAt.o_ HM) (by decide) (by decide) (Ct.imp (V _ _ HM) (fun r h1 n2 V => ?_))
  obtain ⟨rfl, Oh1, s3, HMh1, V⟩ := V
  have HOh1 := Off.tr HO Oh1
  obtain ⟨v4, rfl, V⟩ := V
  show Blk g M_X10_isSignHere (pM x0 h0 nx Q) 8 [(0, .ref x0)] [.int (nI v4)] h1 nx 0 0
  obtain ⟨c, V⟩ := V
  refine r_if_neN (tgt := 33) dX10_isSignHere_8 (by decide) c (fun c => ?_) (fun c => ?_)
  · have V := V.1 c
    refine r_iconst (v := (nI 1)) dX10_isSignHere_33 rfl ?_
    refine r_goto (tgt := 38) dX10_isSignHere_34 (by decide) ?_
    exact r_zret (ty := .boolean) dX10_isSignHere_38 rfl rfl (by decide) (by decide) ⟨rfl, HOh1, _, HMh1, V⟩
  · have V := V.2 c
    refine r_aload_n 0 dX10_isSignHere_11 rfl rfl ?_
    refine r_bipush (v := (nI 61)) dX10_isSignHere_12 rfl ?_
    refine r_iconst (v := (nI 0)) dX10_isSignHere_14 rfl ?_
    refine r_iconst (v := (nI 0)) dX10_isSignHere_15 rfl ?_
    refine r_callV (M2 := M_X10_is) (ci := 11) (n := 3) (As := [.int (nI 61), .int (nI 0), .int (nI 0)]) rfl (wl5 wM_X10_146 wi_X10_is wS_X10_is wI_StateSharesModel wc_X10_is) (by decide +kernel) (by decide) rfl rfl (Nat.le_of_ble_eq_true rfl) dX10_isSignHere_16 (MAt.o_ HMh1) (by decide) (by decide) (Ct.imp (V _ _ HMh1) (fun r h5 n6 V => ?_))
    obtain ⟨rfl, Oh5, s7, HMh5, V⟩ := V
    have HOh5 := Off.tr HOh1 Oh5
    obtain ⟨v8, rfl, V⟩ := V
    show Blk g M_X10_isSignHere (pM x0 h0 nx Q) 19 [(0, .ref x0)] [.int (nI v8)] h5 nx 0 0
    obtain ⟨c, V⟩ := V
    refine r_if_neN (tgt := 33) dX10_isSignHere_19 (by decide) c (fun c => ?_) (fun c => ?_)
    · have V := V.1 c
      refine r_iconst (v := (nI 1)) dX10_isSignHere_33 rfl ?_
      refine r_goto (tgt := 38) dX10_isSignHere_34 (by decide) ?_
      exact r_zret (ty := .boolean) dX10_isSignHere_38 rfl rfl (by decide) (by decide) ⟨rfl, HOh5, _, HMh5, V⟩
    · have V := V.2 c
      refine r_aload_n 0 dX10_isSignHere_22 rfl rfl ?_
      refine r_bipush (v := (nI 62)) dX10_isSignHere_23 rfl ?_
      refine r_iconst (v := (nI 0)) dX10_isSignHere_25 rfl ?_
      refine r_iconst (v := (nI 0)) dX10_isSignHere_26 rfl ?_
      refine r_callV (M2 := M_X10_is) (ci := 11) (n := 3) (As := [.int (nI 62), .int (nI 0), .int (nI 0)]) rfl (wl5 wM_X10_146 wi_X10_is wS_X10_is wI_StateSharesModel wc_X10_is) (by decide +kernel) (by decide) rfl rfl (Nat.le_of_ble_eq_true rfl) dX10_isSignHere_27 (MAt.o_ HMh5) (by decide) (by decide) (Ct.imp (V _ _ HMh5) (fun r h9 n10 V => ?_))
      obtain ⟨rfl, Oh9, s11, HMh9, V⟩ := V
      have HOh9 := Off.tr HOh5 Oh9
      obtain ⟨v12, rfl, V⟩ := V
      show Blk g M_X10_isSignHere (pM x0 h0 nx Q) 30 [(0, .ref x0)] [.int (nI v12)] h9 nx 0 0
      obtain ⟨c, V⟩ := V
      refine r_if_eqN (tgt := 37) dX10_isSignHere_30 (by decide) c (fun c => ?_) (fun c => ?_)
      · have V := V.1 c
        refine r_iconst (v := (nI 0)) dX10_isSignHere_37 rfl ?_
        exact r_zret (ty := .boolean) dX10_isSignHere_38 rfl rfl (by decide) (by decide) ⟨rfl, HOh9, _, HMh9, V⟩
      · have V := V.2 c
        refine r_iconst (v := (nI 1)) dX10_isSignHere_33 rfl ?_
        refine r_goto (tgt := 38) dX10_isSignHere_34 (by decide) ?_
        exact r_zret (ty := .boolean) dX10_isSignHere_38 rfl rfl (by decide) (by decide) ⟨rfl, HOh9, _, HMh9, V⟩
set_option maxRecDepth 20000 in
theorem v_X10_value_0 {g : xG} {Q : mQ} {s : MV} {x0 : Nat} {x1 : Nat} (V : (CtM g M_X10_sortHere [.ref x0] x0 s (fun r s3 => ∃ v4 : Nat, r = some (.int (nI v4)) ∧ ((v4 < 2 ^ 31 ∧ 2 < 2 ^ 31) ∧ ((v4 = 2 → ((x1 + 4) < 132 ∧ (Q none (MV.u_at_ (MV.u_dr s3 (va_up s3.dr (x1 + 4) (nI v4))) (s3.at_ + 1))))) ∧ (¬ v4 = 2 → ((v4 < 2 ^ 31 ∧ 3 < 2 ^ 31) ∧ ((v4 = 3 → ((x1 + 4) < 132 ∧ (Q none (MV.u_at_ (MV.u_dr s3 (va_up s3.dr (x1 + 4) (nI v4))) (s3.at_ + 1))))) ∧ (¬ v4 = 3 → ((v4 < 2 ^ 31 ∧ 5 < 2 ^ 31) ∧ ((¬ v4 = 5 → (CtM g M_X10_number [.ref x0] x0 s3 (fun r s11 => ∃ v12 : Int32, r = some (.int v12) ∧ (s11.wr < 2 ^ 31 ∧ ((¬ s11.wr = 0 → ((x1 + 4) < 132 ∧ ((x1 + 5) < 132 ∧ (Q none (MV.u_dr s11 (va_up (va_up s11.dr (x1 + 4) (nI 0)) (x1 + 5) v12)))))) ∧ (s11.wr = 0 → ((v12 < (nI s11.n) → ((x1 + 4) < 132 ∧ ((x1 + 5) < 132 ∧ (Q none (MV.u_dr s11 (va_up (va_up s11.dr (x1 + 4) (nI 0)) (x1 + 5) v12)))))) ∧ (¬ v12 < (nI s11.n) → ((x1 + 4) < 132 ∧ ((x1 + 5) < 132 ∧ (Q none (MV.u_dr (MV.u_wr (MV.u_at_ s11 s3.at_) 1) (va_up (va_up s11.dr (x1 + 4) (nI 0)) (x1 + 5) v12))))))))))))) ∧ (v4 = 5 → ((x1 + 4) < 132 ∧ (Q none (MV.u_at_ (MV.u_dr s3 (va_up s3.dr (x1 + 4) (nI v4))) (s3.at_ + 1)))))))))))))))) : BlkM g M_X10_value x0 Q 0 [(0, .ref x0), (1, .int (nI x1))] [] s := by
  intro h0 h nx HO HM
  refine r_aload_n 0 dX10_value_0 rfl rfl ?_
  refine r_callV (M2 := M_X10_sortHere) (ci := 11) (n := 0) (As := []) rfl (wl5 wM_X10_150 wi_X10_sortHere wS_X10_sortHere wI_StateSharesModel wc_X10_sortHere) (by decide +kernel) (by decide) rfl rfl (Nat.le_of_ble_eq_true rfl) dX10_value_1 (MAt.o_ HM) (by decide) (by decide) (Ct.imp (V _ _ HM) (fun r h1 n2 V => ?_))
  obtain ⟨rfl, Oh1, s3, HMh1, V⟩ := V
  have HOh1 := Off.tr HO Oh1
  obtain ⟨v4, rfl, V⟩ := V
  show Blk g M_X10_value (pM x0 h0 nx Q) 4 [(0, .ref x0), (1, .int (nI x1))] [.int (nI v4)] h1 nx 0 0
  refine r_istore_n (L' := [(2, .int (nI v4)), (0, .ref x0), (1, .int (nI x1))]) dX10_value_4 rfl (by decide) rfl ?_
  refine r_iload_n 0 dX10_value_5 rfl rfl ?_
  refine r_iconst (v := (nI 2)) dX10_value_6 rfl ?_
  obtain ⟨c, V⟩ := V
  refine r_icmp_eqN (tgt := 20) dX10_value_7 (by decide) c (fun c => ?_) (fun c => ?_)
  · have V := V.1 c
    refine r_aload_n 1 dX10_value_20 rfl rfl ?_
    refine r_getf (ci := 11) (kf := 14) (T := TX10) rfl in_X10 (by decide) wF_X10_28 dX10_value_21 (MAt.o_ HMh1) rfl ?_
    refine r_iload_n 2 dX10_value_24 rfl rfl ?_
    refine r_iconst (v := (nI 4)) dX10_value_25 rfl ?_
    refine r_iaddN dX10_value_26 ?_
    refine r_iload_n 0 dX10_value_27 rfl rfl ?_
    obtain ⟨c, V⟩ := V
    refine r_iast dX10_value_28 (MAt.g_dr HMh1) rfl c (by decide) ?_
    obtain ⟨hu5, eu5, HMu5, HOu5⟩ := mo_dr HMh1 HOh1 (va_up s3.dr (x1 + 4) (nI v4))
    refine Blk.eqs ?_ rfl rfl eu5
    replace HMu5 : MAt hu5 x0 (MV.u_dr s3 (va_up s3.dr (x1 + 4) (nI v4))) := HMu5
    show Blk g M_X10_value (pM x0 h0 nx Q) 29 [(2, .int (nI v4)), (0, .ref x0), (1, .int (nI x1))] [] hu5 nx 0 0
    refine r_aload_n 1 dX10_value_29 rfl rfl ?_
    refine r_dup dX10_value_30 rfl ?_
    refine r_getf (ci := 11) (kf := 9) (T := TX10) rfl in_X10 (by decide) wF_X10_136 dX10_value_31 (MAt.o_ HMu5) rfl ?_
    show Blk g M_X10_value (pM x0 h0 nx Q) 34 [(2, .int (nI v4)), (0, .ref x0), (1, .int (nI x1))] [.int (nI s3.at_), .ref x0] hu5 nx 0 0
    refine r_iconst (v := (nI 1)) dX10_value_34 rfl ?_
    refine r_iaddN dX10_value_35 ?_
    refine r_putf (ci := 11) (kf := 9) (T := TX10) rfl in_X10 tyX10_ok nmX10 (by decide) wF_X10_136 rfl (tyX10_ok 9 (by decide)) dX10_value_36 (MAt.o_ HMu5) (Nat.le_of_ble_eq_true rfl) rfl rfl ?_
    obtain ⟨hu6, eu6, HMu6, HOu6⟩ := mo_o HMu5 HOu5 s3.cd s3.n s3.sz s3.wn (s3.at_ + 1) s3.wr s3.ru s3.dn s3.lm s3.st s3.fr s3.up
    refine Blk.eqs ?_ rfl rfl eu6
    replace HMu6 : MAt hu6 x0 (MV.u_at_ (MV.u_dr s3 (va_up s3.dr (x1 + 4) (nI v4))) (s3.at_ + 1)) := HMu6
    show Blk g M_X10_value (pM x0 h0 nx Q) 39 [(2, .int (nI v4)), (0, .ref x0), (1, .int (nI x1))] [] hu6 nx 0 0
    exact r_vret dX10_value_39 rfl (by decide) (by decide) ⟨rfl, HOu6, _, HMu6, V⟩
  · have V := V.2 c
    refine r_iload_n 0 dX10_value_10 rfl rfl ?_
    refine r_iconst (v := (nI 3)) dX10_value_11 rfl ?_
    obtain ⟨c, V⟩ := V
    refine r_icmp_eqN (tgt := 20) dX10_value_12 (by decide) c (fun c => ?_) (fun c => ?_)
    · have V := V.1 c
      refine r_aload_n 1 dX10_value_20 rfl rfl ?_
      refine r_getf (ci := 11) (kf := 14) (T := TX10) rfl in_X10 (by decide) wF_X10_28 dX10_value_21 (MAt.o_ HMh1) rfl ?_
      refine r_iload_n 2 dX10_value_24 rfl rfl ?_
      refine r_iconst (v := (nI 4)) dX10_value_25 rfl ?_
      refine r_iaddN dX10_value_26 ?_
      refine r_iload_n 0 dX10_value_27 rfl rfl ?_
      obtain ⟨c, V⟩ := V
      refine r_iast dX10_value_28 (MAt.g_dr HMh1) rfl c (by decide) ?_
      obtain ⟨hu7, eu7, HMu7, HOu7⟩ := mo_dr HMh1 HOh1 (va_up s3.dr (x1 + 4) (nI v4))
      refine Blk.eqs ?_ rfl rfl eu7
      replace HMu7 : MAt hu7 x0 (MV.u_dr s3 (va_up s3.dr (x1 + 4) (nI v4))) := HMu7
      show Blk g M_X10_value (pM x0 h0 nx Q) 29 [(2, .int (nI v4)), (0, .ref x0), (1, .int (nI x1))] [] hu7 nx 0 0
      refine r_aload_n 1 dX10_value_29 rfl rfl ?_
      refine r_dup dX10_value_30 rfl ?_
      refine r_getf (ci := 11) (kf := 9) (T := TX10) rfl in_X10 (by decide) wF_X10_136 dX10_value_31 (MAt.o_ HMu7) rfl ?_
      show Blk g M_X10_value (pM x0 h0 nx Q) 34 [(2, .int (nI v4)), (0, .ref x0), (1, .int (nI x1))] [.int (nI s3.at_), .ref x0] hu7 nx 0 0
      refine r_iconst (v := (nI 1)) dX10_value_34 rfl ?_
      refine r_iaddN dX10_value_35 ?_
      refine r_putf (ci := 11) (kf := 9) (T := TX10) rfl in_X10 tyX10_ok nmX10 (by decide) wF_X10_136 rfl (tyX10_ok 9 (by decide)) dX10_value_36 (MAt.o_ HMu7) (Nat.le_of_ble_eq_true rfl) rfl rfl ?_
      obtain ⟨hu8, eu8, HMu8, HOu8⟩ := mo_o HMu7 HOu7 s3.cd s3.n s3.sz s3.wn (s3.at_ + 1) s3.wr s3.ru s3.dn s3.lm s3.st s3.fr s3.up
      refine Blk.eqs ?_ rfl rfl eu8
      replace HMu8 : MAt hu8 x0 (MV.u_at_ (MV.u_dr s3 (va_up s3.dr (x1 + 4) (nI v4))) (s3.at_ + 1)) := HMu8
      show Blk g M_X10_value (pM x0 h0 nx Q) 39 [(2, .int (nI v4)), (0, .ref x0), (1, .int (nI x1))] [] hu8 nx 0 0
      exact r_vret dX10_value_39 rfl (by decide) (by decide) ⟨rfl, HOu8, _, HMu8, V⟩
    · have V := V.2 c
      refine r_iload_n 0 dX10_value_15 rfl rfl ?_
      refine r_iconst (v := (nI 5)) dX10_value_16 rfl ?_
      obtain ⟨c, V⟩ := V
      refine r_icmp_neN (tgt := 40) dX10_value_17 (by decide) c (fun c => ?_) (fun c => ?_)
      · have V := V.1 c
        refine r_aload_n 1 dX10_value_40 rfl rfl ?_
        refine r_getf (ci := 11) (kf := 9) (T := TX10) rfl in_X10 (by decide) wF_X10_136 dX10_value_41 (MAt.o_ HMh1) rfl ?_
        refine r_istore_n (L' := [(3, .int (nI s3.at_)), (2, .int (nI v4)), (0, .ref x0), (1, .int (nI x1))]) dX10_value_44 rfl (by decide) rfl ?_
        refine r_aload_n 2 dX10_value_45 rfl rfl ?_
        refine r_callV (M2 := M_X10_number) (ci := 11) (n := 0) (As := []) rfl (wl5 wM_X10_154 wi_X10_number wS_X10_number wI_StateSharesModel wc_X10_number) (by decide +kernel) (by decide) rfl rfl (Nat.le_of_ble_eq_true rfl) dX10_value_46 (MAt.o_ HMh1) (by decide) (by decide) (Ct.imp (V _ _ HMh1) (fun r h9 n10 V => ?_))
        obtain ⟨rfl, Oh9, s11, HMh9, V⟩ := V
        have HOh9 := Off.tr HOh1 Oh9
        obtain ⟨v12, rfl, V⟩ := V
        show Blk g M_X10_value (pM x0 h0 nx Q) 49 [(3, .int (nI s3.at_)), (2, .int (nI v4)), (0, .ref x0), (1, .int (nI x1))] [.int v12] h9 nx 0 0
        refine r_istore (L' := [(4, .int v12), (3, .int (nI s3.at_)), (2, .int (nI v4)), (0, .ref x0), (1, .int (nI x1))]) dX10_value_49 (by decide) rfl ?_
        refine r_aload_n 3 dX10_value_51 rfl rfl ?_
        refine r_getf (ci := 11) (kf := 10) (T := TX10) rfl in_X10 (by decide) wF_X10_139 dX10_value_52 (MAt.o_ HMh9) rfl ?_
        obtain ⟨c, V⟩ := V
        refine r_if_neN (tgt := 77) dX10_value_55 (by decide) c (fun c => ?_) (fun c => ?_)
        · have V := V.1 c
          refine r_aload_n 3 dX10_value_77 rfl rfl ?_
          refine r_getf (ci := 11) (kf := 14) (T := TX10) rfl in_X10 (by decide) wF_X10_28 dX10_value_78 (MAt.o_ HMh9) rfl ?_
          refine r_iload_n 4 dX10_value_81 rfl rfl ?_
          refine r_iconst (v := (nI 4)) dX10_value_82 rfl ?_
          refine r_iaddN dX10_value_83 ?_
          refine r_iconst (v := (nI 0)) dX10_value_84 rfl ?_
          obtain ⟨c, V⟩ := V
          refine r_iast dX10_value_85 (MAt.g_dr HMh9) rfl c (by decide) ?_
          obtain ⟨hu13, eu13, HMu13, HOu13⟩ := mo_dr HMh9 HOh9 (va_up s11.dr (x1 + 4) (nI 0))
          refine Blk.eqs ?_ rfl rfl eu13
          replace HMu13 : MAt hu13 x0 (MV.u_dr s11 (va_up s11.dr (x1 + 4) (nI 0))) := HMu13
          show Blk g M_X10_value (pM x0 h0 nx Q) 86 [(4, .int v12), (3, .int (nI s3.at_)), (2, .int (nI v4)), (0, .ref x0), (1, .int (nI x1))] [] hu13 nx 0 0
          refine r_aload_n 3 dX10_value_86 rfl rfl ?_
          refine r_getf (ci := 11) (kf := 14) (T := TX10) rfl in_X10 (by decide) wF_X10_28 dX10_value_87 (MAt.o_ HMu13) rfl ?_
          show Blk g M_X10_value (pM x0 h0 nx Q) 90 [(4, .int v12), (3, .int (nI s3.at_)), (2, .int (nI v4)), (0, .ref x0), (1, .int (nI x1))] [.ref (x0 + 7)] hu13 nx 0 0
          refine r_iload_n 4 dX10_value_90 rfl rfl ?_
          refine r_iconst (v := (nI 5)) dX10_value_91 rfl ?_
          refine r_iaddN dX10_value_92 ?_
          refine r_iload 0 dX10_value_93 rfl ?_
          obtain ⟨c, V⟩ := V
          refine r_iast dX10_value_95 (MAt.g_dr HMu13) rfl c (by decide) ?_
          obtain ⟨hu14, eu14, HMu14, HOu14⟩ := mo_dr HMu13 HOu13 (va_up (va_up s11.dr (x1 + 4) (nI 0)) (x1 + 5) v12)
          refine Blk.eqs ?_ rfl rfl eu14
          replace HMu14 : MAt hu14 x0 (MV.u_dr s11 (va_up (va_up s11.dr (x1 + 4) (nI 0)) (x1 + 5) v12)) := HMu14
          show Blk g M_X10_value (pM x0 h0 nx Q) 96 [(4, .int v12), (3, .int (nI s3.at_)), (2, .int (nI v4)), (0, .ref x0), (1, .int (nI x1))] [] hu14 nx 0 0
          exact r_vret dX10_value_96 rfl (by decide) (by decide) ⟨rfl, HOu14, _, HMu14, V⟩
        · have V := V.2 c
          refine r_iload 0 dX10_value_58 rfl ?_
          refine r_aload_n 3 dX10_value_60 rfl rfl ?_
          refine r_getf (ci := 11) (kf := 1) (T := TX10) rfl in_X10 (by decide) wF_X10_75 dX10_value_61 (MAt.o_ HMh9) rfl ?_
          refine r_icmp_lt (tgt := 77) dX10_value_64 (by decide) (fun c => ?_) (fun c => ?_)
          · have V := V.1 c
            refine r_aload_n 3 dX10_value_77 rfl rfl ?_
            refine r_getf (ci := 11) (kf := 14) (T := TX10) rfl in_X10 (by decide) wF_X10_28 dX10_value_78 (MAt.o_ HMh9) rfl ?_
            refine r_iload_n 4 dX10_value_81 rfl rfl ?_
            refine r_iconst (v := (nI 4)) dX10_value_82 rfl ?_
            refine r_iaddN dX10_value_83 ?_
            refine r_iconst (v := (nI 0)) dX10_value_84 rfl ?_
            obtain ⟨c, V⟩ := V
            refine r_iast dX10_value_85 (MAt.g_dr HMh9) rfl c (by decide) ?_
            obtain ⟨hu15, eu15, HMu15, HOu15⟩ := mo_dr HMh9 HOh9 (va_up s11.dr (x1 + 4) (nI 0))
            refine Blk.eqs ?_ rfl rfl eu15
            replace HMu15 : MAt hu15 x0 (MV.u_dr s11 (va_up s11.dr (x1 + 4) (nI 0))) := HMu15
            show Blk g M_X10_value (pM x0 h0 nx Q) 86 [(4, .int v12), (3, .int (nI s3.at_)), (2, .int (nI v4)), (0, .ref x0), (1, .int (nI x1))] [] hu15 nx 0 0
            refine r_aload_n 3 dX10_value_86 rfl rfl ?_
            refine r_getf (ci := 11) (kf := 14) (T := TX10) rfl in_X10 (by decide) wF_X10_28 dX10_value_87 (MAt.o_ HMu15) rfl ?_
            show Blk g M_X10_value (pM x0 h0 nx Q) 90 [(4, .int v12), (3, .int (nI s3.at_)), (2, .int (nI v4)), (0, .ref x0), (1, .int (nI x1))] [.ref (x0 + 7)] hu15 nx 0 0
            refine r_iload_n 4 dX10_value_90 rfl rfl ?_
            refine r_iconst (v := (nI 5)) dX10_value_91 rfl ?_
            refine r_iaddN dX10_value_92 ?_
            refine r_iload 0 dX10_value_93 rfl ?_
            obtain ⟨c, V⟩ := V
            refine r_iast dX10_value_95 (MAt.g_dr HMu15) rfl c (by decide) ?_
            obtain ⟨hu16, eu16, HMu16, HOu16⟩ := mo_dr HMu15 HOu15 (va_up (va_up s11.dr (x1 + 4) (nI 0)) (x1 + 5) v12)
            refine Blk.eqs ?_ rfl rfl eu16
            replace HMu16 : MAt hu16 x0 (MV.u_dr s11 (va_up (va_up s11.dr (x1 + 4) (nI 0)) (x1 + 5) v12)) := HMu16
            show Blk g M_X10_value (pM x0 h0 nx Q) 96 [(4, .int v12), (3, .int (nI s3.at_)), (2, .int (nI v4)), (0, .ref x0), (1, .int (nI x1))] [] hu16 nx 0 0
            exact r_vret dX10_value_96 rfl (by decide) (by decide) ⟨rfl, HOu16, _, HMu16, V⟩
          · have V := V.2 c
            refine r_aload_n 3 dX10_value_67 rfl rfl ?_
            refine r_iload_n 1 dX10_value_68 rfl rfl ?_
            refine r_putf (ci := 11) (kf := 9) (T := TX10) rfl in_X10 tyX10_ok nmX10 (by decide) wF_X10_136 rfl (tyX10_ok 9 (by decide)) dX10_value_69 (MAt.o_ HMh9) (Nat.le_of_ble_eq_true rfl) rfl rfl ?_
            obtain ⟨hu17, eu17, HMu17, HOu17⟩ := mo_o HMh9 HOh9 s11.cd s11.n s11.sz s11.wn s3.at_ s11.wr s11.ru s11.dn s11.lm s11.st s11.fr s11.up
            refine Blk.eqs ?_ rfl rfl eu17
            replace HMu17 : MAt hu17 x0 (MV.u_at_ s11 s3.at_) := HMu17
            show Blk g M_X10_value (pM x0 h0 nx Q) 72 [(4, .int v12), (3, .int (nI s3.at_)), (2, .int (nI v4)), (0, .ref x0), (1, .int (nI x1))] [] hu17 nx 0 0
            refine r_aload_n 3 dX10_value_72 rfl rfl ?_
            refine r_iconst (v := (nI 1)) dX10_value_73 rfl ?_
            refine r_putf (ci := 11) (kf := 10) (T := TX10) rfl in_X10 tyX10_ok nmX10 (by decide) wF_X10_139 rfl (tyX10_ok 10 (by decide)) dX10_value_74 (MAt.o_ HMu17) (Nat.le_of_ble_eq_true rfl) rfl rfl ?_
            obtain ⟨hu18, eu18, HMu18, HOu18⟩ := mo_o HMu17 HOu17 s11.cd s11.n s11.sz s11.wn s3.at_ 1 s11.ru s11.dn s11.lm s11.st s11.fr s11.up
            refine Blk.eqs ?_ rfl rfl eu18
            replace HMu18 : MAt hu18 x0 (MV.u_wr (MV.u_at_ s11 s3.at_) 1) := HMu18
            show Blk g M_X10_value (pM x0 h0 nx Q) 77 [(4, .int v12), (3, .int (nI s3.at_)), (2, .int (nI v4)), (0, .ref x0), (1, .int (nI x1))] [] hu18 nx 0 0
            refine r_aload_n 3 dX10_value_77 rfl rfl ?_
            refine r_getf (ci := 11) (kf := 14) (T := TX10) rfl in_X10 (by decide) wF_X10_28 dX10_value_78 (MAt.o_ HMu18) rfl ?_
            show Blk g M_X10_value (pM x0 h0 nx Q) 81 [(4, .int v12), (3, .int (nI s3.at_)), (2, .int (nI v4)), (0, .ref x0), (1, .int (nI x1))] [.ref (x0 + 7)] hu18 nx 0 0
            refine r_iload_n 4 dX10_value_81 rfl rfl ?_
            refine r_iconst (v := (nI 4)) dX10_value_82 rfl ?_
            refine r_iaddN dX10_value_83 ?_
            refine r_iconst (v := (nI 0)) dX10_value_84 rfl ?_
            obtain ⟨c, V⟩ := V
            refine r_iast dX10_value_85 (MAt.g_dr HMu18) rfl c (by decide) ?_
            obtain ⟨hu19, eu19, HMu19, HOu19⟩ := mo_dr HMu18 HOu18 (va_up s11.dr (x1 + 4) (nI 0))
            refine Blk.eqs ?_ rfl rfl eu19
            replace HMu19 : MAt hu19 x0 (MV.u_dr (MV.u_wr (MV.u_at_ s11 s3.at_) 1) (va_up s11.dr (x1 + 4) (nI 0))) := HMu19
            show Blk g M_X10_value (pM x0 h0 nx Q) 86 [(4, .int v12), (3, .int (nI s3.at_)), (2, .int (nI v4)), (0, .ref x0), (1, .int (nI x1))] [] hu19 nx 0 0
            refine r_aload_n 3 dX10_value_86 rfl rfl ?_
            refine r_getf (ci := 11) (kf := 14) (T := TX10) rfl in_X10 (by decide) wF_X10_28 dX10_value_87 (MAt.o_ HMu19) rfl ?_
            show Blk g M_X10_value (pM x0 h0 nx Q) 90 [(4, .int v12), (3, .int (nI s3.at_)), (2, .int (nI v4)), (0, .ref x0), (1, .int (nI x1))] [.ref (x0 + 7)] hu19 nx 0 0
            refine r_iload_n 4 dX10_value_90 rfl rfl ?_
            refine r_iconst (v := (nI 5)) dX10_value_91 rfl ?_
            refine r_iaddN dX10_value_92 ?_
            refine r_iload 0 dX10_value_93 rfl ?_
            obtain ⟨c, V⟩ := V
            refine r_iast dX10_value_95 (MAt.g_dr HMu19) rfl c (by decide) ?_
            obtain ⟨hu20, eu20, HMu20, HOu20⟩ := mo_dr HMu19 HOu19 (va_up (va_up s11.dr (x1 + 4) (nI 0)) (x1 + 5) v12)
            refine Blk.eqs ?_ rfl rfl eu20
            replace HMu20 : MAt hu20 x0 (MV.u_dr (MV.u_wr (MV.u_at_ s11 s3.at_) 1) (va_up (va_up s11.dr (x1 + 4) (nI 0)) (x1 + 5) v12)) := HMu20
            show Blk g M_X10_value (pM x0 h0 nx Q) 96 [(4, .int v12), (3, .int (nI s3.at_)), (2, .int (nI v4)), (0, .ref x0), (1, .int (nI x1))] [] hu20 nx 0 0
            exact r_vret dX10_value_96 rfl (by decide) (by decide) ⟨rfl, HOu20, _, HMu20, V⟩
      · have V := V.2 c
        refine r_aload_n 1 dX10_value_20 rfl rfl ?_
        refine r_getf (ci := 11) (kf := 14) (T := TX10) rfl in_X10 (by decide) wF_X10_28 dX10_value_21 (MAt.o_ HMh1) rfl ?_
        refine r_iload_n 2 dX10_value_24 rfl rfl ?_
        refine r_iconst (v := (nI 4)) dX10_value_25 rfl ?_
        refine r_iaddN dX10_value_26 ?_
        refine r_iload_n 0 dX10_value_27 rfl rfl ?_
        obtain ⟨c, V⟩ := V
        refine r_iast dX10_value_28 (MAt.g_dr HMh1) rfl c (by decide) ?_
        obtain ⟨hu21, eu21, HMu21, HOu21⟩ := mo_dr HMh1 HOh1 (va_up s3.dr (x1 + 4) (nI v4))
        refine Blk.eqs ?_ rfl rfl eu21
        replace HMu21 : MAt hu21 x0 (MV.u_dr s3 (va_up s3.dr (x1 + 4) (nI v4))) := HMu21
        show Blk g M_X10_value (pM x0 h0 nx Q) 29 [(2, .int (nI v4)), (0, .ref x0), (1, .int (nI x1))] [] hu21 nx 0 0
        refine r_aload_n 1 dX10_value_29 rfl rfl ?_
        refine r_dup dX10_value_30 rfl ?_
        refine r_getf (ci := 11) (kf := 9) (T := TX10) rfl in_X10 (by decide) wF_X10_136 dX10_value_31 (MAt.o_ HMu21) rfl ?_
        show Blk g M_X10_value (pM x0 h0 nx Q) 34 [(2, .int (nI v4)), (0, .ref x0), (1, .int (nI x1))] [.int (nI s3.at_), .ref x0] hu21 nx 0 0
        refine r_iconst (v := (nI 1)) dX10_value_34 rfl ?_
        refine r_iaddN dX10_value_35 ?_
        refine r_putf (ci := 11) (kf := 9) (T := TX10) rfl in_X10 tyX10_ok nmX10 (by decide) wF_X10_136 rfl (tyX10_ok 9 (by decide)) dX10_value_36 (MAt.o_ HMu21) (Nat.le_of_ble_eq_true rfl) rfl rfl ?_
        obtain ⟨hu22, eu22, HMu22, HOu22⟩ := mo_o HMu21 HOu21 s3.cd s3.n s3.sz s3.wn (s3.at_ + 1) s3.wr s3.ru s3.dn s3.lm s3.st s3.fr s3.up
        refine Blk.eqs ?_ rfl rfl eu22
        replace HMu22 : MAt hu22 x0 (MV.u_at_ (MV.u_dr s3 (va_up s3.dr (x1 + 4) (nI v4))) (s3.at_ + 1)) := HMu22
        show Blk g M_X10_value (pM x0 h0 nx Q) 39 [(2, .int (nI v4)), (0, .ref x0), (1, .int (nI x1))] [] hu22 nx 0 0
        exact r_vret dX10_value_39 rfl (by decide) (by decide) ⟨rfl, HOu22, _, HMu22, V⟩
set_option maxRecDepth 20000 in
theorem v_X10_hasCondition_0 {g : xG} {Q : mQ} {s : MV} {x0 : Nat} (V : (CtM g M_X10_sortHere [.ref x0] x0 s (fun r s3 => ∃ v4 : Nat, r = some (.int (nI v4)) ∧ (CtM g M_X10_isSignHere [.ref x0] x0 (MV.u_at_ s3 (s3.at_ + 1)) (fun r s8 => ∃ v9 : Nat, r = some (.int (nI v9)) ∧ (1 ≤ s8.at_ ∧ ((v4 < 2 ^ 31 ∧ 1 < 2 ^ 31) ∧ ((v4 = 1 → (Q (some (.int (nI 1))) (MV.u_at_ s8 (s8.at_ - 1)))) ∧ (¬ v4 = 1 → ((v4 < 2 ^ 31 ∧ 4 < 2 ^ 31) ∧ ((v4 = 4 → (Q (some (.int (nI 1))) (MV.u_at_ s8 (s8.at_ - 1)))) ∧ (¬ v4 = 4 → ((v4 < 2 ^ 31 ∧ 2 < 2 ^ 31) ∧ ((v4 = 2 → (v9 < 2 ^ 31 ∧ ((v9 = 0 → (Q (some (.int (nI 0))) (MV.u_at_ s8 (s8.at_ - 1)))) ∧ (¬ v9 = 0 → (Q (some (.int (nI 1))) (MV.u_at_ s8 (s8.at_ - 1))))))) ∧ (¬ v4 = 2 → ((v4 < 2 ^ 31 ∧ 3 < 2 ^ 31) ∧ ((¬ v4 = 3 → (Q (some (.int (nI 0))) (MV.u_at_ s8 (s8.at_ - 1)))) ∧ (v4 = 3 → (v9 < 2 ^ 31 ∧ ((v9 = 0 → (Q (some (.int (nI 0))) (MV.u_at_ s8 (s8.at_ - 1)))) ∧ (¬ v9 = 0 → (Q (some (.int (nI 1))) (MV.u_at_ s8 (s8.at_ - 1)))))))))))))))))))))))) : BlkM g M_X10_hasCondition x0 Q 0 [(0, .ref x0)] [] s := by
  intro h0 h nx HO HM
  refine r_aload_n 0 dX10_hasCondition_0 rfl rfl ?_
  refine r_callV (M2 := M_X10_sortHere) (ci := 11) (n := 0) (As := []) rfl (wl5 wM_X10_150 wi_X10_sortHere wS_X10_sortHere wI_StateSharesModel wc_X10_sortHere) (by decide +kernel) (by decide) rfl rfl (Nat.le_of_ble_eq_true rfl) dX10_hasCondition_1 (MAt.o_ HM) (by decide) (by decide) (Ct.imp (V _ _ HM) (fun r h1 n2 V => ?_))
  obtain ⟨rfl, Oh1, s3, HMh1, V⟩ := V
  have HOh1 := Off.tr HO Oh1
  obtain ⟨v4, rfl, V⟩ := V
  show Blk g M_X10_hasCondition (pM x0 h0 nx Q) 4 [(0, .ref x0)] [.int (nI v4)] h1 nx 0 0
  refine r_istore_n (L' := [(1, .int (nI v4)), (0, .ref x0)]) dX10_hasCondition_4 rfl (by decide) rfl ?_
  refine r_aload_n 1 dX10_hasCondition_5 rfl rfl ?_
  refine r_dup dX10_hasCondition_6 rfl ?_
  refine r_getf (ci := 11) (kf := 9) (T := TX10) rfl in_X10 (by decide) wF_X10_136 dX10_hasCondition_7 (MAt.o_ HMh1) rfl ?_
  refine r_iconst (v := (nI 1)) dX10_hasCondition_10 rfl ?_
  refine r_iaddN dX10_hasCondition_11 ?_
  refine r_putf (ci := 11) (kf := 9) (T := TX10) rfl in_X10 tyX10_ok nmX10 (by decide) wF_X10_136 rfl (tyX10_ok 9 (by decide)) dX10_hasCondition_12 (MAt.o_ HMh1) (Nat.le_of_ble_eq_true rfl) rfl rfl ?_
  obtain ⟨hu5, eu5, HMu5, HOu5⟩ := mo_o HMh1 HOh1 s3.cd s3.n s3.sz s3.wn (s3.at_ + 1) s3.wr s3.ru s3.dn s3.lm s3.st s3.fr s3.up
  refine Blk.eqs ?_ rfl rfl eu5
  replace HMu5 : MAt hu5 x0 (MV.u_at_ s3 (s3.at_ + 1)) := HMu5
  show Blk g M_X10_hasCondition (pM x0 h0 nx Q) 15 [(1, .int (nI v4)), (0, .ref x0)] [] hu5 nx 0 0
  refine r_aload_n 1 dX10_hasCondition_15 rfl rfl ?_
  refine r_callV (M2 := M_X10_isSignHere) (ci := 11) (n := 0) (As := []) rfl (wl5 wM_X10_157 wi_X10_isSignHere wS_X10_isSignHere wI_StateSharesModel wc_X10_isSignHere) (by decide +kernel) (by decide) rfl rfl (Nat.le_of_ble_eq_true rfl) dX10_hasCondition_16 (MAt.o_ HMu5) (by decide) (by decide) (Ct.imp (V _ _ HMu5) (fun r h6 n7 V => ?_))
  obtain ⟨rfl, Oh6, s8, HMh6, V⟩ := V
  have HOh6 := Off.tr HOu5 Oh6
  obtain ⟨v9, rfl, V⟩ := V
  show Blk g M_X10_hasCondition (pM x0 h0 nx Q) 19 [(1, .int (nI v4)), (0, .ref x0)] [.int (nI v9)] h6 nx 0 0
  refine r_istore_n (L' := [(2, .int (nI v9)), (1, .int (nI v4)), (0, .ref x0)]) dX10_hasCondition_19 rfl (by decide) rfl ?_
  refine r_aload_n 2 dX10_hasCondition_20 rfl rfl ?_
  refine r_dup dX10_hasCondition_21 rfl ?_
  refine r_getf (ci := 11) (kf := 9) (T := TX10) rfl in_X10 (by decide) wF_X10_136 dX10_hasCondition_22 (MAt.o_ HMh6) rfl ?_
  refine r_iconst (v := (nI 1)) dX10_hasCondition_25 rfl ?_
  obtain ⟨c, V⟩ := V
  refine r_isubN dX10_hasCondition_26 c ?_
  refine r_putf (ci := 11) (kf := 9) (T := TX10) rfl in_X10 tyX10_ok nmX10 (by decide) wF_X10_136 rfl (tyX10_ok 9 (by decide)) dX10_hasCondition_27 (MAt.o_ HMh6) (Nat.le_of_ble_eq_true rfl) rfl rfl ?_
  obtain ⟨hu10, eu10, HMu10, HOu10⟩ := mo_o HMh6 HOh6 s8.cd s8.n s8.sz s8.wn (s8.at_ - 1) s8.wr s8.ru s8.dn s8.lm s8.st s8.fr s8.up
  refine Blk.eqs ?_ rfl rfl eu10
  replace HMu10 : MAt hu10 x0 (MV.u_at_ s8 (s8.at_ - 1)) := HMu10
  show Blk g M_X10_hasCondition (pM x0 h0 nx Q) 30 [(2, .int (nI v9)), (1, .int (nI v4)), (0, .ref x0)] [] hu10 nx 0 0
  refine r_iload_n 1 dX10_hasCondition_30 rfl rfl ?_
  refine r_iconst (v := (nI 1)) dX10_hasCondition_31 rfl ?_
  obtain ⟨c, V⟩ := V
  refine r_icmp_eqN (tgt := 54) dX10_hasCondition_32 (by decide) c (fun c => ?_) (fun c => ?_)
  · have V := V.1 c
    refine r_iconst (v := (nI 1)) dX10_hasCondition_54 rfl ?_
    refine r_goto (tgt := 59) dX10_hasCondition_55 (by decide) ?_
    exact r_zret (ty := .boolean) dX10_hasCondition_59 rfl rfl (by decide) (by decide) ⟨rfl, HOu10, _, HMu10, V⟩
  · have V := V.2 c
    refine r_iload_n 1 dX10_hasCondition_35 rfl rfl ?_
    refine r_iconst (v := (nI 4)) dX10_hasCondition_36 rfl ?_
    obtain ⟨c, V⟩ := V
    refine r_icmp_eqN (tgt := 54) dX10_hasCondition_37 (by decide) c (fun c => ?_) (fun c => ?_)
    · have V := V.1 c
      refine r_iconst (v := (nI 1)) dX10_hasCondition_54 rfl ?_
      refine r_goto (tgt := 59) dX10_hasCondition_55 (by decide) ?_
      exact r_zret (ty := .boolean) dX10_hasCondition_59 rfl rfl (by decide) (by decide) ⟨rfl, HOu10, _, HMu10, V⟩
    · have V := V.2 c
      refine r_iload_n 1 dX10_hasCondition_40 rfl rfl ?_
      refine r_iconst (v := (nI 2)) dX10_hasCondition_41 rfl ?_
      obtain ⟨c, V⟩ := V
      refine r_icmp_eqN (tgt := 50) dX10_hasCondition_42 (by decide) c (fun c => ?_) (fun c => ?_)
      · have V := V.1 c
        refine r_iload_n 0 dX10_hasCondition_50 rfl rfl ?_
        obtain ⟨c, V⟩ := V
        refine r_if_eqN (tgt := 58) dX10_hasCondition_51 (by decide) c (fun c => ?_) (fun c => ?_)
        · have V := V.1 c
          refine r_iconst (v := (nI 0)) dX10_hasCondition_58 rfl ?_
          exact r_zret (ty := .boolean) dX10_hasCondition_59 rfl rfl (by decide) (by decide) ⟨rfl, HOu10, _, HMu10, V⟩
        · have V := V.2 c
          refine r_iconst (v := (nI 1)) dX10_hasCondition_54 rfl ?_
          refine r_goto (tgt := 59) dX10_hasCondition_55 (by decide) ?_
          exact r_zret (ty := .boolean) dX10_hasCondition_59 rfl rfl (by decide) (by decide) ⟨rfl, HOu10, _, HMu10, V⟩
      · have V := V.2 c
        refine r_iload_n 1 dX10_hasCondition_45 rfl rfl ?_
        refine r_iconst (v := (nI 3)) dX10_hasCondition_46 rfl ?_
        obtain ⟨c, V⟩ := V
        refine r_icmp_neN (tgt := 58) dX10_hasCondition_47 (by decide) c (fun c => ?_) (fun c => ?_)
        · have V := V.1 c
          refine r_iconst (v := (nI 0)) dX10_hasCondition_58 rfl ?_
          exact r_zret (ty := .boolean) dX10_hasCondition_59 rfl rfl (by decide) (by decide) ⟨rfl, HOu10, _, HMu10, V⟩
        · have V := V.2 c
          refine r_iload_n 0 dX10_hasCondition_50 rfl rfl ?_
          obtain ⟨c, V⟩ := V
          refine r_if_eqN (tgt := 58) dX10_hasCondition_51 (by decide) c (fun c => ?_) (fun c => ?_)
          · have V := V.1 c
            refine r_iconst (v := (nI 0)) dX10_hasCondition_58 rfl ?_
            exact r_zret (ty := .boolean) dX10_hasCondition_59 rfl rfl (by decide) (by decide) ⟨rfl, HOu10, _, HMu10, V⟩
          · have V := V.2 c
            refine r_iconst (v := (nI 1)) dX10_hasCondition_54 rfl ?_
            refine r_goto (tgt := 59) dX10_hasCondition_55 (by decide) ?_
            exact r_zret (ty := .boolean) dX10_hasCondition_59 rfl rfl (by decide) (by decide) ⟨rfl, HOu10, _, HMu10, V⟩
set_option maxRecDepth 20000 in
theorem v_X10_readRule_0 {g : xG} {Q : mQ} {s : MV} {x0 : Nat} (V : ((s.dn < 2 ^ 31 ∧ 20 < 2 ^ 31) ∧ ((¬ s.dn = 20 → ((6 * s.dn) < 132 ∧ (CtM g M_X10_hasCondition [.ref x0] x0 (MV.u_dr s (va_up s.dr (6 * s.dn) (nI 0))) (fun r s4 => ∃ v5 : Nat, r = some (.int (nI v5)) ∧ (v5 < 2 ^ 31 ∧ ((v5 = 0 → BlkM g M_X10_readRule x0 Q 181 [(0, .ref x0), (1, .int (nI (6 * s.dn)))] [] s4) ∧ (¬ v5 = 0 → (CtM g M_X10_sortHere [.ref x0] x0 s4 (fun r s8 => ∃ v9 : Nat, r = some (.int (nI v9)) ∧ ((6 * s.dn) < 132 ∧ ((6 * s.dn) < 132 ∧ ((¬ ((va_up s8.dr (6 * s.dn) (nI v9)) (6 * s.dn)) = (nI 4) → BlkM g M_X10_readRule x0 Q 79 [(0, .ref x0), (1, .int (nI (6 * s.dn)))] [] (MV.u_at_ (MV.u_dr s8 (va_up s8.dr (6 * s.dn) (nI v9))) (s8.at_ + 1))) ∧ (((va_up s8.dr (6 * s.dn) (nI v9)) (6 * s.dn)) = (nI 4) → (CtM g M_X10_number [.ref x0] x0 (MV.u_at_ (MV.u_dr s8 (va_up s8.dr (6 * s.dn) (nI v9))) (s8.at_ + 1)) (fun r s14 => ∃ v15 : Int32, r = some (.int v15) ∧ (((6 * s.dn) + 1) < 132 ∧ BlkM g M_X10_readRule x0 Q 79 [(0, .ref x0), (1, .int (nI (6 * s.dn)))] [] (MV.u_dr s14 (va_up s14.dr ((6 * s.dn) + 1) v15)))))))))))))))))) ∧ (s.dn = 20 → (Q none (MV.u_wr s 1)))))) : BlkM g M_X10_readRule x0 Q 0 [(0, .ref x0)] [] s := by
  intro h0 h nx HO HM
  refine r_bipush (v := (nI 6)) dX10_readRule_0 rfl ?_
  refine r_aload_n 0 dX10_readRule_2 rfl rfl ?_
  refine r_getf (ci := 11) (kf := 13) (T := TX10) rfl in_X10 (by decide) wF_X10_160 dX10_readRule_3 (MAt.o_ HM) rfl ?_
  refine r_imulN dX10_readRule_6 ?_
  refine r_istore_n (L' := [(1, .int (nI (6 * s.dn))), (0, .ref x0)]) dX10_readRule_7 rfl (by decide) rfl ?_
  refine r_aload_n 1 dX10_readRule_8 rfl rfl ?_
  refine r_getf (ci := 11) (kf := 13) (T := TX10) rfl in_X10 (by decide) wF_X10_160 dX10_readRule_9 (MAt.o_ HM) rfl ?_
  refine r_bipush (v := (nI 20)) dX10_readRule_12 rfl ?_
  obtain ⟨c, V⟩ := V
  refine r_icmp_neN (tgt := 23) dX10_readRule_14 (by decide) c (fun c => ?_) (fun c => ?_)
  · have V := V.1 c
    refine r_aload_n 1 dX10_readRule_23 rfl rfl ?_
    refine r_getf (ci := 11) (kf := 14) (T := TX10) rfl in_X10 (by decide) wF_X10_28 dX10_readRule_24 (MAt.o_ HM) rfl ?_
    refine r_iload_n 0 dX10_readRule_27 rfl rfl ?_
    refine r_iconst (v := (nI 0)) dX10_readRule_28 rfl ?_
    obtain ⟨c, V⟩ := V
    refine r_iast dX10_readRule_29 (MAt.g_dr HM) rfl c (by decide) ?_
    obtain ⟨hu1, eu1, HMu1, HOu1⟩ := mo_dr HM HO (va_up s.dr (6 * s.dn) (nI 0))
    refine Blk.eqs ?_ rfl rfl eu1
    replace HMu1 : MAt hu1 x0 (MV.u_dr s (va_up s.dr (6 * s.dn) (nI 0))) := HMu1
    show Blk g M_X10_readRule (pM x0 h0 nx Q) 30 [(1, .int (nI (6 * s.dn))), (0, .ref x0)] [] hu1 nx 0 0
    refine r_aload_n 1 dX10_readRule_30 rfl rfl ?_
    refine r_callV (M2 := M_X10_hasCondition) (ci := 11) (n := 0) (As := []) rfl (wl5 wM_X10_163 wi_X10_hasCondition wS_X10_hasCondition wI_StateSharesModel wc_X10_hasCondition) (by decide +kernel) (by decide) rfl rfl (Nat.le_of_ble_eq_true rfl) dX10_readRule_31 (MAt.o_ HMu1) (by decide) (by decide) (Ct.imp (V _ _ HMu1) (fun r h2 n3 V => ?_))
    obtain ⟨rfl, Oh2, s4, HMh2, V⟩ := V
    have HOh2 := Off.tr HOu1 Oh2
    obtain ⟨v5, rfl, V⟩ := V
    show Blk g M_X10_readRule (pM x0 h0 nx Q) 34 [(1, .int (nI (6 * s.dn))), (0, .ref x0)] [.int (nI v5)] h2 nx 0 0
    obtain ⟨c, V⟩ := V
    refine r_if_eqN (tgt := 181) dX10_readRule_34 (by decide) c (fun c => ?_) (fun c => ?_)
    · have V := V.1 c
      exact Blk.sub [1, 0] rfl (V _ _ _ HOh2 HMh2)
    · have V := V.2 c
      refine r_aload_n 1 dX10_readRule_37 rfl rfl ?_
      refine r_getf (ci := 11) (kf := 14) (T := TX10) rfl in_X10 (by decide) wF_X10_28 dX10_readRule_38 (MAt.o_ HMh2) rfl ?_
      refine r_iload_n 0 dX10_readRule_41 rfl rfl ?_
      refine r_aload_n 1 dX10_readRule_42 rfl rfl ?_
      refine r_callV (M2 := M_X10_sortHere) (ci := 11) (n := 0) (As := []) rfl (wl5 wM_X10_150 wi_X10_sortHere wS_X10_sortHere wI_StateSharesModel wc_X10_sortHere) (by decide +kernel) (by decide) rfl rfl (Nat.le_of_ble_eq_true rfl) dX10_readRule_43 (MAt.o_ HMh2) (by decide) (by decide) (Ct.imp (V _ _ HMh2) (fun r h6 n7 V => ?_))
      obtain ⟨rfl, Oh6, s8, HMh6, V⟩ := V
      have HOh6 := Off.tr HOh2 Oh6
      obtain ⟨v9, rfl, V⟩ := V
      show Blk g M_X10_readRule (pM x0 h0 nx Q) 46 [(1, .int (nI (6 * s.dn))), (0, .ref x0)] [.int (nI v9), .int (nI (6 * s.dn)), .ref (x0 + 7)] h6 nx 0 0
      obtain ⟨c, V⟩ := V
      refine r_iast dX10_readRule_46 (MAt.g_dr HMh6) rfl c (by decide) ?_
      obtain ⟨hu10, eu10, HMu10, HOu10⟩ := mo_dr HMh6 HOh6 (va_up s8.dr (6 * s.dn) (nI v9))
      refine Blk.eqs ?_ rfl rfl eu10
      replace HMu10 : MAt hu10 x0 (MV.u_dr s8 (va_up s8.dr (6 * s.dn) (nI v9))) := HMu10
      show Blk g M_X10_readRule (pM x0 h0 nx Q) 47 [(1, .int (nI (6 * s.dn))), (0, .ref x0)] [] hu10 nx 0 0
      refine r_aload_n 1 dX10_readRule_47 rfl rfl ?_
      refine r_dup dX10_readRule_48 rfl ?_
      refine r_getf (ci := 11) (kf := 9) (T := TX10) rfl in_X10 (by decide) wF_X10_136 dX10_readRule_49 (MAt.o_ HMu10) rfl ?_
      show Blk g M_X10_readRule (pM x0 h0 nx Q) 52 [(1, .int (nI (6 * s.dn))), (0, .ref x0)] [.int (nI s8.at_), .ref x0] hu10 nx 0 0
      refine r_iconst (v := (nI 1)) dX10_readRule_52 rfl ?_
      refine r_iaddN dX10_readRule_53 ?_
      refine r_putf (ci := 11) (kf := 9) (T := TX10) rfl in_X10 tyX10_ok nmX10 (by decide) wF_X10_136 rfl (tyX10_ok 9 (by decide)) dX10_readRule_54 (MAt.o_ HMu10) (Nat.le_of_ble_eq_true rfl) rfl rfl ?_
      obtain ⟨hu11, eu11, HMu11, HOu11⟩ := mo_o HMu10 HOu10 s8.cd s8.n s8.sz s8.wn (s8.at_ + 1) s8.wr s8.ru s8.dn s8.lm s8.st s8.fr s8.up
      refine Blk.eqs ?_ rfl rfl eu11
      replace HMu11 : MAt hu11 x0 (MV.u_at_ (MV.u_dr s8 (va_up s8.dr (6 * s.dn) (nI v9))) (s8.at_ + 1)) := HMu11
      show Blk g M_X10_readRule (pM x0 h0 nx Q) 57 [(1, .int (nI (6 * s.dn))), (0, .ref x0)] [] hu11 nx 0 0
      refine r_aload_n 1 dX10_readRule_57 rfl rfl ?_
      refine r_getf (ci := 11) (kf := 14) (T := TX10) rfl in_X10 (by decide) wF_X10_28 dX10_readRule_58 (MAt.o_ HMu11) rfl ?_
      show Blk g M_X10_readRule (pM x0 h0 nx Q) 61 [(1, .int (nI (6 * s.dn))), (0, .ref x0)] [.ref (x0 + 7)] hu11 nx 0 0
      refine r_iload_n 0 dX10_readRule_61 rfl rfl ?_
      obtain ⟨c, V⟩ := V
      refine r_iald dX10_readRule_62 (MAt.g_dr HMu11) rfl c (by decide) ?_
      show Blk g M_X10_readRule (pM x0 h0 nx Q) 63 [(1, .int (nI (6 * s.dn))), (0, .ref x0)] [.int ((va_up s8.dr (6 * s.dn) (nI v9)) (6 * s.dn))] hu11 nx 0 0
      refine r_iconst (v := (nI 4)) dX10_readRule_63 rfl ?_
      refine r_icmp_ne (tgt := 79) dX10_readRule_64 (by decide) (fun c => ?_) (fun c => ?_)
      · have V := V.1 c
        exact Blk.sub [1, 0] rfl (V _ _ _ HOu11 HMu11)
      · have V := V.2 c
        refine r_aload_n 1 dX10_readRule_67 rfl rfl ?_
        refine r_getf (ci := 11) (kf := 14) (T := TX10) rfl in_X10 (by decide) wF_X10_28 dX10_readRule_68 (MAt.o_ HMu11) rfl ?_
        show Blk g M_X10_readRule (pM x0 h0 nx Q) 71 [(1, .int (nI (6 * s.dn))), (0, .ref x0)] [.ref (x0 + 7)] hu11 nx 0 0
        refine r_iload_n 0 dX10_readRule_71 rfl rfl ?_
        refine r_iconst (v := (nI 1)) dX10_readRule_72 rfl ?_
        refine r_iaddN dX10_readRule_73 ?_
        refine r_aload_n 1 dX10_readRule_74 rfl rfl ?_
        refine r_callV (M2 := M_X10_number) (ci := 11) (n := 0) (As := []) rfl (wl5 wM_X10_154 wi_X10_number wS_X10_number wI_StateSharesModel wc_X10_number) (by decide +kernel) (by decide) rfl rfl (Nat.le_of_ble_eq_true rfl) dX10_readRule_75 (MAt.o_ HMu11) (by decide) (by decide) (Ct.imp (V _ _ HMu11) (fun r h12 n13 V => ?_))
        obtain ⟨rfl, Oh12, s14, HMh12, V⟩ := V
        have HOh12 := Off.tr HOu11 Oh12
        obtain ⟨v15, rfl, V⟩ := V
        show Blk g M_X10_readRule (pM x0 h0 nx Q) 78 [(1, .int (nI (6 * s.dn))), (0, .ref x0)] [.int v15, .int (nI ((6 * s.dn) + 1)), .ref (x0 + 7)] h12 nx 0 0
        obtain ⟨c, V⟩ := V
        refine r_iast dX10_readRule_78 (MAt.g_dr HMh12) rfl c (by decide) ?_
        obtain ⟨hu16, eu16, HMu16, HOu16⟩ := mo_dr HMh12 HOh12 (va_up s14.dr ((6 * s.dn) + 1) v15)
        refine Blk.eqs ?_ rfl rfl eu16
        replace HMu16 : MAt hu16 x0 (MV.u_dr s14 (va_up s14.dr ((6 * s.dn) + 1) v15)) := HMu16
        show Blk g M_X10_readRule (pM x0 h0 nx Q) 79 [(1, .int (nI (6 * s.dn))), (0, .ref x0)] [] hu16 nx 0 0
        exact Blk.sub [1, 0] rfl (V _ _ _ HOu16 HMu16)
  · have V := V.2 c
    refine r_aload_n 1 dX10_readRule_17 rfl rfl ?_
    refine r_iconst (v := (nI 1)) dX10_readRule_18 rfl ?_
    refine r_putf (ci := 11) (kf := 10) (T := TX10) rfl in_X10 tyX10_ok nmX10 (by decide) wF_X10_139 rfl (tyX10_ok 10 (by decide)) dX10_readRule_19 (MAt.o_ HM) (Nat.le_of_ble_eq_true rfl) rfl rfl ?_
    obtain ⟨hu17, eu17, HMu17, HOu17⟩ := mo_o HM HO s.cd s.n s.sz s.wn s.at_ 1 s.ru s.dn s.lm s.st s.fr s.up
    refine Blk.eqs ?_ rfl rfl eu17
    replace HMu17 : MAt hu17 x0 (MV.u_wr s 1) := HMu17
    show Blk g M_X10_readRule (pM x0 h0 nx Q) 22 [(1, .int (nI (6 * s.dn))), (0, .ref x0)] [] hu17 nx 0 0
    exact r_vret dX10_readRule_22 rfl (by decide) (by decide) ⟨rfl, HOu17, _, HMu17, V⟩
set_option maxRecDepth 20000 in
theorem v_X10_readRule_79 {g : xG} {Q : mQ} {s : MV} {x0 : Nat} {x1 : Nat} (V : (s.wr < 2 ^ 31 ∧ ((¬ s.wr = 0 → BlkM g M_X10_readRule x0 Q 133 [(0, .ref x0), (1, .int (nI x1))] [] (MV.u_wr s 1)) ∧ (s.wr = 0 → (CtM g M_X10_isSignHere [.ref x0] x0 s (fun r s4 => ∃ v5 : Nat, r = some (.int (nI v5)) ∧ (v5 < 2 ^ 31 ∧ ((v5 = 0 → BlkM g M_X10_readRule x0 Q 133 [(0, .ref x0), (1, .int (nI x1))] [] (MV.u_wr s4 1)) ∧ (¬ v5 = 0 → (s4.at_ < 121 ∧ ((s4.wf s4.at_) < 120 ∧ ((x1 + 2) < 132 ∧ BlkM g M_X10_readRule x0 Q 133 [(0, .ref x0), (1, .int (nI x1))] [] (MV.u_at_ (MV.u_dr s4 (va_up s4.dr (x1 + 2) (nI (s4.tx (s4.wf s4.at_))))) (s4.at_ + 1)))))))))))))) : BlkM g M_X10_readRule x0 Q 79 [(0, .ref x0), (1, .int (nI x1))] [] s := by
  intro h0 h nx HO HM
  refine r_aload_n 0 dX10_readRule_79 rfl rfl ?_
  refine r_getf (ci := 11) (kf := 10) (T := TX10) rfl in_X10 (by decide) wF_X10_139 dX10_readRule_80 (MAt.o_ HM) rfl ?_
  obtain ⟨c, V⟩ := V
  refine r_if_neN (tgt := 128) dX10_readRule_83 (by decide) c (fun c => ?_) (fun c => ?_)
  · have V := V.1 c
    refine r_aload_n 0 dX10_readRule_128 rfl rfl ?_
    refine r_iconst (v := (nI 1)) dX10_readRule_129 rfl ?_
    refine r_putf (ci := 11) (kf := 10) (T := TX10) rfl in_X10 tyX10_ok nmX10 (by decide) wF_X10_139 rfl (tyX10_ok 10 (by decide)) dX10_readRule_130 (MAt.o_ HM) (Nat.le_of_ble_eq_true rfl) rfl rfl ?_
    obtain ⟨hu1, eu1, HMu1, HOu1⟩ := mo_o HM HO s.cd s.n s.sz s.wn s.at_ 1 s.ru s.dn s.lm s.st s.fr s.up
    refine Blk.eqs ?_ rfl rfl eu1
    replace HMu1 : MAt hu1 x0 (MV.u_wr s 1) := HMu1
    show Blk g M_X10_readRule (pM x0 h0 nx Q) 133 [(0, .ref x0), (1, .int (nI x1))] [] hu1 nx 0 0
    exact Blk.sub [0, 1] rfl (V _ _ _ HOu1 HMu1)
  · have V := V.2 c
    refine r_aload_n 0 dX10_readRule_86 rfl rfl ?_
    refine r_callV (M2 := M_X10_isSignHere) (ci := 11) (n := 0) (As := []) rfl (wl5 wM_X10_157 wi_X10_isSignHere wS_X10_isSignHere wI_StateSharesModel wc_X10_isSignHere) (by decide +kernel) (by decide) rfl rfl (Nat.le_of_ble_eq_true rfl) dX10_readRule_87 (MAt.o_ HM) (by decide) (by decide) (Ct.imp (V _ _ HM) (fun r h2 n3 V => ?_))
    obtain ⟨rfl, Oh2, s4, HMh2, V⟩ := V
    have HOh2 := Off.tr HO Oh2
    obtain ⟨v5, rfl, V⟩ := V
    show Blk g M_X10_readRule (pM x0 h0 nx Q) 90 [(0, .ref x0), (1, .int (nI x1))] [.int (nI v5)] h2 nx 0 0
    obtain ⟨c, V⟩ := V
    refine r_if_eqN (tgt := 128) dX10_readRule_90 (by decide) c (fun c => ?_) (fun c => ?_)
    · have V := V.1 c
      refine r_aload_n 0 dX10_readRule_128 rfl rfl ?_
      refine r_iconst (v := (nI 1)) dX10_readRule_129 rfl ?_
      refine r_putf (ci := 11) (kf := 10) (T := TX10) rfl in_X10 tyX10_ok nmX10 (by decide) wF_X10_139 rfl (tyX10_ok 10 (by decide)) dX10_readRule_130 (MAt.o_ HMh2) (Nat.le_of_ble_eq_true rfl) rfl rfl ?_
      obtain ⟨hu6, eu6, HMu6, HOu6⟩ := mo_o HMh2 HOh2 s4.cd s4.n s4.sz s4.wn s4.at_ 1 s4.ru s4.dn s4.lm s4.st s4.fr s4.up
      refine Blk.eqs ?_ rfl rfl eu6
      replace HMu6 : MAt hu6 x0 (MV.u_wr s4 1) := HMu6
      show Blk g M_X10_readRule (pM x0 h0 nx Q) 133 [(0, .ref x0), (1, .int (nI x1))] [] hu6 nx 0 0
      exact Blk.sub [0, 1] rfl (V _ _ _ HOu6 HMu6)
    · have V := V.2 c
      refine r_aload_n 0 dX10_readRule_93 rfl rfl ?_
      refine r_getf (ci := 11) (kf := 14) (T := TX10) rfl in_X10 (by decide) wF_X10_28 dX10_readRule_94 (MAt.o_ HMh2) rfl ?_
      refine r_iload_n 1 dX10_readRule_97 rfl rfl ?_
      refine r_iconst (v := (nI 2)) dX10_readRule_98 rfl ?_
      refine r_iaddN dX10_readRule_99 ?_
      refine r_aload_n 0 dX10_readRule_100 rfl rfl ?_
      refine r_getf (ci := 11) (kf := 4) (T := TX10) rfl in_X10 (by decide) wF_X10_16 dX10_readRule_101 (MAt.o_ HMh2) rfl ?_
      refine r_aload_n 0 dX10_readRule_104 rfl rfl ?_
      refine r_getf (ci := 11) (kf := 7) (T := TX10) rfl in_X10 (by decide) wF_X10_19 dX10_readRule_105 (MAt.o_ HMh2) rfl ?_
      refine r_aload_n 0 dX10_readRule_108 rfl rfl ?_
      refine r_getf (ci := 11) (kf := 9) (T := TX10) rfl in_X10 (by decide) wF_X10_136 dX10_readRule_109 (MAt.o_ HMh2) rfl ?_
      obtain ⟨c, V⟩ := V
      refine r_iald dX10_readRule_112 (MAt.g_wf HMh2) rfl c (by decide) ?_
      show Blk g M_X10_readRule (pM x0 h0 nx Q) 113 [(0, .ref x0), (1, .int (nI x1))] [.int (nI (s4.wf s4.at_)), .ref (x0 + 3), .int (nI (x1 + 2)), .ref (x0 + 7)] h2 nx 0 0
      obtain ⟨c, V⟩ := V
      refine r_iald dX10_readRule_113 (MAt.g_tx HMh2) rfl c (by decide) ?_
      show Blk g M_X10_readRule (pM x0 h0 nx Q) 114 [(0, .ref x0), (1, .int (nI x1))] [.int (nI (s4.tx (s4.wf s4.at_))), .int (nI (x1 + 2)), .ref (x0 + 7)] h2 nx 0 0
      obtain ⟨c, V⟩ := V
      refine r_iast dX10_readRule_114 (MAt.g_dr HMh2) rfl c (by decide) ?_
      obtain ⟨hu7, eu7, HMu7, HOu7⟩ := mo_dr HMh2 HOh2 (va_up s4.dr (x1 + 2) (nI (s4.tx (s4.wf s4.at_))))
      refine Blk.eqs ?_ rfl rfl eu7
      replace HMu7 : MAt hu7 x0 (MV.u_dr s4 (va_up s4.dr (x1 + 2) (nI (s4.tx (s4.wf s4.at_))))) := HMu7
      show Blk g M_X10_readRule (pM x0 h0 nx Q) 115 [(0, .ref x0), (1, .int (nI x1))] [] hu7 nx 0 0
      refine r_aload_n 0 dX10_readRule_115 rfl rfl ?_
      refine r_dup dX10_readRule_116 rfl ?_
      refine r_getf (ci := 11) (kf := 9) (T := TX10) rfl in_X10 (by decide) wF_X10_136 dX10_readRule_117 (MAt.o_ HMu7) rfl ?_
      show Blk g M_X10_readRule (pM x0 h0 nx Q) 120 [(0, .ref x0), (1, .int (nI x1))] [.int (nI s4.at_), .ref x0] hu7 nx 0 0
      refine r_iconst (v := (nI 1)) dX10_readRule_120 rfl ?_
      refine r_iaddN dX10_readRule_121 ?_
      refine r_putf (ci := 11) (kf := 9) (T := TX10) rfl in_X10 tyX10_ok nmX10 (by decide) wF_X10_136 rfl (tyX10_ok 9 (by decide)) dX10_readRule_122 (MAt.o_ HMu7) (Nat.le_of_ble_eq_true rfl) rfl rfl ?_
      obtain ⟨hu8, eu8, HMu8, HOu8⟩ := mo_o HMu7 HOu7 s4.cd s4.n s4.sz s4.wn (s4.at_ + 1) s4.wr s4.ru s4.dn s4.lm s4.st s4.fr s4.up
      refine Blk.eqs ?_ rfl rfl eu8
      replace HMu8 : MAt hu8 x0 (MV.u_at_ (MV.u_dr s4 (va_up s4.dr (x1 + 2) (nI (s4.tx (s4.wf s4.at_))))) (s4.at_ + 1)) := HMu8
      show Blk g M_X10_readRule (pM x0 h0 nx Q) 125 [(0, .ref x0), (1, .int (nI x1))] [] hu8 nx 0 0
      refine r_goto (tgt := 133) dX10_readRule_125 (by decide) ?_
      exact Blk.sub [0, 1] rfl (V _ _ _ HOu8 HMu8)
set_option maxRecDepth 20000 in
theorem v_X10_readRule_133 {g : xG} {Q : mQ} {s : MV} {x0 : Nat} {x1 : Nat} (V : (CtM g M_X10_number [.ref x0] x0 s (fun r s3 => ∃ v4 : Int32, r = some (.int v4) ∧ ((x1 + 3) < 132 ∧ (s3.wr < 2 ^ 31 ∧ ((¬ s3.wr = 0 → BlkM g M_X10_readRule x0 Q 181 [(0, .ref x0), (1, .int (nI x1))] [] (MV.u_wr (MV.u_dr s3 (va_up s3.dr (x1 + 3) v4)) 1)) ∧ (s3.wr = 0 → (CtM g M_X10_is [.ref x0, .int (nI 58), .int (nI 0), .int (nI 0)] x0 (MV.u_dr s3 (va_up s3.dr (x1 + 3) v4)) (fun r s9 => ∃ v10 : Nat, r = some (.int (nI v10)) ∧ (v10 < 2 ^ 31 ∧ ((v10 = 0 → BlkM g M_X10_readRule x0 Q 181 [(0, .ref x0), (1, .int (nI x1))] [] (MV.u_wr s9 1)) ∧ (¬ v10 = 0 → BlkM g M_X10_readRule x0 Q 181 [(0, .ref x0), (1, .int (nI x1))] [] (MV.u_at_ s9 (s9.at_ + 1)))))))))))))) : BlkM g M_X10_readRule x0 Q 133 [(0, .ref x0), (1, .int (nI x1))] [] s := by
  intro h0 h nx HO HM
  refine r_aload_n 0 dX10_readRule_133 rfl rfl ?_
  refine r_getf (ci := 11) (kf := 14) (T := TX10) rfl in_X10 (by decide) wF_X10_28 dX10_readRule_134 (MAt.o_ HM) rfl ?_
  refine r_iload_n 1 dX10_readRule_137 rfl rfl ?_
  refine r_iconst (v := (nI 3)) dX10_readRule_138 rfl ?_
  refine r_iaddN dX10_readRule_139 ?_
  refine r_aload_n 0 dX10_readRule_140 rfl rfl ?_
  refine r_callV (M2 := M_X10_number) (ci := 11) (n := 0) (As := []) rfl (wl5 wM_X10_154 wi_X10_number wS_X10_number wI_StateSharesModel wc_X10_number) (by decide +kernel) (by decide) rfl rfl (Nat.le_of_ble_eq_true rfl) dX10_readRule_141 (MAt.o_ HM) (by decide) (by decide) (Ct.imp (V _ _ HM) (fun r h1 n2 V => ?_))
  obtain ⟨rfl, Oh1, s3, HMh1, V⟩ := V
  have HOh1 := Off.tr HO Oh1
  obtain ⟨v4, rfl, V⟩ := V
  show Blk g M_X10_readRule (pM x0 h0 nx Q) 144 [(0, .ref x0), (1, .int (nI x1))] [.int v4, .int (nI (x1 + 3)), .ref (x0 + 7)] h1 nx 0 0
  obtain ⟨c, V⟩ := V
  refine r_iast dX10_readRule_144 (MAt.g_dr HMh1) rfl c (by decide) ?_
  obtain ⟨hu5, eu5, HMu5, HOu5⟩ := mo_dr HMh1 HOh1 (va_up s3.dr (x1 + 3) v4)
  refine Blk.eqs ?_ rfl rfl eu5
  replace HMu5 : MAt hu5 x0 (MV.u_dr s3 (va_up s3.dr (x1 + 3) v4)) := HMu5
  show Blk g M_X10_readRule (pM x0 h0 nx Q) 145 [(0, .ref x0), (1, .int (nI x1))] [] hu5 nx 0 0
  refine r_aload_n 0 dX10_readRule_145 rfl rfl ?_
  refine r_getf (ci := 11) (kf := 10) (T := TX10) rfl in_X10 (by decide) wF_X10_139 dX10_readRule_146 (MAt.o_ HMu5) rfl ?_
  show Blk g M_X10_readRule (pM x0 h0 nx Q) 149 [(0, .ref x0), (1, .int (nI x1))] [.int (nI s3.wr)] hu5 nx 0 0
  obtain ⟨c, V⟩ := V
  refine r_if_neN (tgt := 176) dX10_readRule_149 (by decide) c (fun c => ?_) (fun c => ?_)
  · have V := V.1 c
    refine r_aload_n 0 dX10_readRule_176 rfl rfl ?_
    refine r_iconst (v := (nI 1)) dX10_readRule_177 rfl ?_
    refine r_putf (ci := 11) (kf := 10) (T := TX10) rfl in_X10 tyX10_ok nmX10 (by decide) wF_X10_139 rfl (tyX10_ok 10 (by decide)) dX10_readRule_178 (MAt.o_ HMu5) (Nat.le_of_ble_eq_true rfl) rfl rfl ?_
    obtain ⟨hu6, eu6, HMu6, HOu6⟩ := mo_o HMu5 HOu5 s3.cd s3.n s3.sz s3.wn s3.at_ 1 s3.ru s3.dn s3.lm s3.st s3.fr s3.up
    refine Blk.eqs ?_ rfl rfl eu6
    replace HMu6 : MAt hu6 x0 (MV.u_wr (MV.u_dr s3 (va_up s3.dr (x1 + 3) v4)) 1) := HMu6
    show Blk g M_X10_readRule (pM x0 h0 nx Q) 181 [(0, .ref x0), (1, .int (nI x1))] [] hu6 nx 0 0
    exact Blk.sub [0, 1] rfl (V _ _ _ HOu6 HMu6)
  · have V := V.2 c
    refine r_aload_n 0 dX10_readRule_152 rfl rfl ?_
    refine r_bipush (v := (nI 58)) dX10_readRule_153 rfl ?_
    refine r_iconst (v := (nI 0)) dX10_readRule_155 rfl ?_
    refine r_iconst (v := (nI 0)) dX10_readRule_156 rfl ?_
    refine r_callV (M2 := M_X10_is) (ci := 11) (n := 3) (As := [.int (nI 58), .int (nI 0), .int (nI 0)]) rfl (wl5 wM_X10_146 wi_X10_is wS_X10_is wI_StateSharesModel wc_X10_is) (by decide +kernel) (by decide) rfl rfl (Nat.le_of_ble_eq_true rfl) dX10_readRule_157 (MAt.o_ HMu5) (by decide) (by decide) (Ct.imp (V _ _ HMu5) (fun r h7 n8 V => ?_))
    obtain ⟨rfl, Oh7, s9, HMh7, V⟩ := V
    have HOh7 := Off.tr HOu5 Oh7
    obtain ⟨v10, rfl, V⟩ := V
    show Blk g M_X10_readRule (pM x0 h0 nx Q) 160 [(0, .ref x0), (1, .int (nI x1))] [.int (nI v10)] h7 nx 0 0
    obtain ⟨c, V⟩ := V
    refine r_if_eqN (tgt := 176) dX10_readRule_160 (by decide) c (fun c => ?_) (fun c => ?_)
    · have V := V.1 c
      refine r_aload_n 0 dX10_readRule_176 rfl rfl ?_
      refine r_iconst (v := (nI 1)) dX10_readRule_177 rfl ?_
      refine r_putf (ci := 11) (kf := 10) (T := TX10) rfl in_X10 tyX10_ok nmX10 (by decide) wF_X10_139 rfl (tyX10_ok 10 (by decide)) dX10_readRule_178 (MAt.o_ HMh7) (Nat.le_of_ble_eq_true rfl) rfl rfl ?_
      obtain ⟨hu11, eu11, HMu11, HOu11⟩ := mo_o HMh7 HOh7 s9.cd s9.n s9.sz s9.wn s9.at_ 1 s9.ru s9.dn s9.lm s9.st s9.fr s9.up
      refine Blk.eqs ?_ rfl rfl eu11
      replace HMu11 : MAt hu11 x0 (MV.u_wr s9 1) := HMu11
      show Blk g M_X10_readRule (pM x0 h0 nx Q) 181 [(0, .ref x0), (1, .int (nI x1))] [] hu11 nx 0 0
      exact Blk.sub [0, 1] rfl (V _ _ _ HOu11 HMu11)
    · have V := V.2 c
      refine r_aload_n 0 dX10_readRule_163 rfl rfl ?_
      refine r_dup dX10_readRule_164 rfl ?_
      refine r_getf (ci := 11) (kf := 9) (T := TX10) rfl in_X10 (by decide) wF_X10_136 dX10_readRule_165 (MAt.o_ HMh7) rfl ?_
      refine r_iconst (v := (nI 1)) dX10_readRule_168 rfl ?_
      refine r_iaddN dX10_readRule_169 ?_
      refine r_putf (ci := 11) (kf := 9) (T := TX10) rfl in_X10 tyX10_ok nmX10 (by decide) wF_X10_136 rfl (tyX10_ok 9 (by decide)) dX10_readRule_170 (MAt.o_ HMh7) (Nat.le_of_ble_eq_true rfl) rfl rfl ?_
      obtain ⟨hu12, eu12, HMu12, HOu12⟩ := mo_o HMh7 HOh7 s9.cd s9.n s9.sz s9.wn (s9.at_ + 1) s9.wr s9.ru s9.dn s9.lm s9.st s9.fr s9.up
      refine Blk.eqs ?_ rfl rfl eu12
      replace HMu12 : MAt hu12 x0 (MV.u_at_ s9 (s9.at_ + 1)) := HMu12
      show Blk g M_X10_readRule (pM x0 h0 nx Q) 173 [(0, .ref x0), (1, .int (nI x1))] [] hu12 nx 0 0
      refine r_goto (tgt := 181) dX10_readRule_173 (by decide) ?_
      exact Blk.sub [0, 1] rfl (V _ _ _ HOu12 HMu12)
set_option maxRecDepth 20000 in
theorem v_X10_readRule_181 {g : xG} {Q : mQ} {s : MV} {x0 : Nat} {x1 : Nat} (V : (s.wr < 2 ^ 31 ∧ ((¬ s.wr = 0 → (Q none (MV.u_dn s (s.dn + 1)))) ∧ (s.wr = 0 → (CtM g M_X10_value [.ref x0, .int (nI x1)] x0 s (fun r s4 => r = none ∧ (Q none (MV.u_dn s4 (s4.dn + 1))))))))) : BlkM g M_X10_readRule x0 Q 181 [(0, .ref x0), (1, .int (nI x1))] [] s := by
  intro h0 h nx HO HM
  refine r_aload_n 0 dX10_readRule_181 rfl rfl ?_
  refine r_getf (ci := 11) (kf := 10) (T := TX10) rfl in_X10 (by decide) wF_X10_139 dX10_readRule_182 (MAt.o_ HM) rfl ?_
  obtain ⟨c, V⟩ := V
  refine r_if_neN (tgt := 193) dX10_readRule_185 (by decide) c (fun c => ?_) (fun c => ?_)
  · have V := V.1 c
    refine r_aload_n 0 dX10_readRule_193 rfl rfl ?_
    refine r_dup dX10_readRule_194 rfl ?_
    refine r_getf (ci := 11) (kf := 13) (T := TX10) rfl in_X10 (by decide) wF_X10_160 dX10_readRule_195 (MAt.o_ HM) rfl ?_
    refine r_iconst (v := (nI 1)) dX10_readRule_198 rfl ?_
    refine r_iaddN dX10_readRule_199 ?_
    refine r_putf (ci := 11) (kf := 13) (T := TX10) rfl in_X10 tyX10_ok nmX10 (by decide) wF_X10_160 rfl (tyX10_ok 13 (by decide)) dX10_readRule_200 (MAt.o_ HM) (Nat.le_of_ble_eq_true rfl) rfl rfl ?_
    obtain ⟨hu1, eu1, HMu1, HOu1⟩ := mo_o HM HO s.cd s.n s.sz s.wn s.at_ s.wr s.ru (s.dn + 1) s.lm s.st s.fr s.up
    refine Blk.eqs ?_ rfl rfl eu1
    replace HMu1 : MAt hu1 x0 (MV.u_dn s (s.dn + 1)) := HMu1
    show Blk g M_X10_readRule (pM x0 h0 nx Q) 203 [(0, .ref x0), (1, .int (nI x1))] [] hu1 nx 0 0
    exact r_vret dX10_readRule_203 rfl (by decide) (by decide) ⟨rfl, HOu1, _, HMu1, V⟩
  · have V := V.2 c
    refine r_aload_n 0 dX10_readRule_188 rfl rfl ?_
    refine r_iload_n 1 dX10_readRule_189 rfl rfl ?_
    refine r_callV (M2 := M_X10_value) (ci := 11) (n := 1) (As := [.int (nI x1)]) rfl (wl5 wM_X10_166 wi_X10_value wS_X10_value wI_StateSharesModel wc_X10_value) (by decide +kernel) (by decide) rfl rfl (Nat.le_of_ble_eq_true rfl) dX10_readRule_190 (MAt.o_ HM) (by decide) (by decide) (Ct.imp (V _ _ HM) (fun r h2 n3 V => ?_))
    obtain ⟨rfl, Oh2, s4, HMh2, V⟩ := V
    have HOh2 := Off.tr HO Oh2
    obtain ⟨rfl, V⟩ := V
    show Blk g M_X10_readRule (pM x0 h0 nx Q) 193 [(0, .ref x0), (1, .int (nI x1))] [] h2 nx 0 0
    refine r_aload_n 0 dX10_readRule_193 rfl rfl ?_
    refine r_dup dX10_readRule_194 rfl ?_
    refine r_getf (ci := 11) (kf := 13) (T := TX10) rfl in_X10 (by decide) wF_X10_160 dX10_readRule_195 (MAt.o_ HMh2) rfl ?_
    refine r_iconst (v := (nI 1)) dX10_readRule_198 rfl ?_
    refine r_iaddN dX10_readRule_199 ?_
    refine r_putf (ci := 11) (kf := 13) (T := TX10) rfl in_X10 tyX10_ok nmX10 (by decide) wF_X10_160 rfl (tyX10_ok 13 (by decide)) dX10_readRule_200 (MAt.o_ HMh2) (Nat.le_of_ble_eq_true rfl) rfl rfl ?_
    obtain ⟨hu5, eu5, HMu5, HOu5⟩ := mo_o HMh2 HOh2 s4.cd s4.n s4.sz s4.wn s4.at_ s4.wr s4.ru (s4.dn + 1) s4.lm s4.st s4.fr s4.up
    refine Blk.eqs ?_ rfl rfl eu5
    replace HMu5 : MAt hu5 x0 (MV.u_dn s4 (s4.dn + 1)) := HMu5
    show Blk g M_X10_readRule (pM x0 h0 nx Q) 203 [(0, .ref x0), (1, .int (nI x1))] [] hu5 nx 0 0
    exact r_vret dX10_readRule_203 rfl (by decide) (by decide) ⟨rfl, HOu5, _, HMu5, V⟩
set_option maxRecDepth 20000 in
theorem v_X10_grade_0 {g : xG} {Q : mQ} {s : MV} {x0 : Nat} (V : (CtM g M_X10_split [.ref x0] x0 (MV.u_cd s 0) (fun r s4 => r = none ∧ BlkM g M_X10_grade x0 Q 26 [(0, .ref x0), (1, .int (nI 1))] [] (MV.u_dn (MV.u_wr (MV.u_at_ s4 0) 0) 0)))) : BlkM g M_X10_grade x0 Q 0 [(0, .ref x0)] [] s := by
  intro h0 h nx HO HM
  refine r_aload_n 0 dX10_grade_0 rfl rfl ?_
  refine r_iconst (v := (nI 0)) dX10_grade_1 rfl ?_
  refine r_putf (ci := 11) (kf := 0) (T := TX10) rfl in_X10 tyX10_ok nmX10 (by decide) wF_X10_91 rfl (tyX10_ok 0 (by decide)) dX10_grade_2 (MAt.o_ HM) (Nat.le_of_ble_eq_true rfl) rfl rfl ?_
  obtain ⟨hu1, eu1, HMu1, HOu1⟩ := mo_o HM HO 0 s.n s.sz s.wn s.at_ s.wr s.ru s.dn s.lm s.st s.fr s.up
  refine Blk.eqs ?_ rfl rfl eu1
  replace HMu1 : MAt hu1 x0 (MV.u_cd s 0) := HMu1
  show Blk g M_X10_grade (pM x0 h0 nx Q) 5 [(0, .ref x0)] [] hu1 nx 0 0
  refine r_aload_n 0 dX10_grade_5 rfl rfl ?_
  refine r_callV (M2 := M_X10_split) (ci := 11) (n := 0) (As := []) rfl (wl5 wM_X10_170 wi_X10_split wS_X10_split wI_StateSharesModel wc_X10_split) (by decide +kernel) (by decide) rfl rfl (Nat.le_of_ble_eq_true rfl) dX10_grade_6 (MAt.o_ HMu1) (by decide) (by decide) (Ct.imp (V _ _ HMu1) (fun r h2 n3 V => ?_))
  obtain ⟨rfl, Oh2, s4, HMh2, V⟩ := V
  have HOh2 := Off.tr HOu1 Oh2
  obtain ⟨rfl, V⟩ := V
  show Blk g M_X10_grade (pM x0 h0 nx Q) 9 [(0, .ref x0)] [] h2 nx 0 0
  refine r_aload_n 0 dX10_grade_9 rfl rfl ?_
  refine r_iconst (v := (nI 0)) dX10_grade_10 rfl ?_
  refine r_putf (ci := 11) (kf := 9) (T := TX10) rfl in_X10 tyX10_ok nmX10 (by decide) wF_X10_136 rfl (tyX10_ok 9 (by decide)) dX10_grade_11 (MAt.o_ HMh2) (Nat.le_of_ble_eq_true rfl) rfl rfl ?_
  obtain ⟨hu5, eu5, HMu5, HOu5⟩ := mo_o HMh2 HOh2 s4.cd s4.n s4.sz s4.wn 0 s4.wr s4.ru s4.dn s4.lm s4.st s4.fr s4.up
  refine Blk.eqs ?_ rfl rfl eu5
  replace HMu5 : MAt hu5 x0 (MV.u_at_ s4 0) := HMu5
  show Blk g M_X10_grade (pM x0 h0 nx Q) 14 [(0, .ref x0)] [] hu5 nx 0 0
  refine r_aload_n 0 dX10_grade_14 rfl rfl ?_
  refine r_iconst (v := (nI 0)) dX10_grade_15 rfl ?_
  refine r_putf (ci := 11) (kf := 10) (T := TX10) rfl in_X10 tyX10_ok nmX10 (by decide) wF_X10_139 rfl (tyX10_ok 10 (by decide)) dX10_grade_16 (MAt.o_ HMu5) (Nat.le_of_ble_eq_true rfl) rfl rfl ?_
  obtain ⟨hu6, eu6, HMu6, HOu6⟩ := mo_o HMu5 HOu5 s4.cd s4.n s4.sz s4.wn 0 0 s4.ru s4.dn s4.lm s4.st s4.fr s4.up
  refine Blk.eqs ?_ rfl rfl eu6
  replace HMu6 : MAt hu6 x0 (MV.u_wr (MV.u_at_ s4 0) 0) := HMu6
  show Blk g M_X10_grade (pM x0 h0 nx Q) 19 [(0, .ref x0)] [] hu6 nx 0 0
  refine r_aload_n 0 dX10_grade_19 rfl rfl ?_
  refine r_iconst (v := (nI 0)) dX10_grade_20 rfl ?_
  refine r_putf (ci := 11) (kf := 13) (T := TX10) rfl in_X10 tyX10_ok nmX10 (by decide) wF_X10_160 rfl (tyX10_ok 13 (by decide)) dX10_grade_21 (MAt.o_ HMu6) (Nat.le_of_ble_eq_true rfl) rfl rfl ?_
  obtain ⟨hu7, eu7, HMu7, HOu7⟩ := mo_o HMu6 HOu6 s4.cd s4.n s4.sz s4.wn 0 0 s4.ru 0 s4.lm s4.st s4.fr s4.up
  refine Blk.eqs ?_ rfl rfl eu7
  replace HMu7 : MAt hu7 x0 (MV.u_dn (MV.u_wr (MV.u_at_ s4 0) 0) 0) := HMu7
  show Blk g M_X10_grade (pM x0 h0 nx Q) 24 [(0, .ref x0)] [] hu7 nx 0 0
  refine r_iconst (v := (nI 1)) dX10_grade_24 rfl ?_
  refine r_istore_n (L' := [(1, .int (nI 1)), (0, .ref x0)]) dX10_grade_25 rfl (by decide) rfl ?_
  exact Blk.sub [1, 0] rfl (V _ _ _ HOu7 HMu7)
set_option maxRecDepth 20000 in
theorem v_X10_grade_26 {g : xG} {Q : mQ} {s : MV} {x0 : Nat} {x1 : Nat} (V : (x1 < 2 ^ 31 ∧ ((x1 = 0 → (s.wr < 2 ^ 31 ∧ ((s.wr = 0 → BlkM g M_X10_grade x0 Q 130 [(0, .ref x0), (2, .int (nI 0))] [] (MV.u_ru (MV.u_sz s 0) s.dn)) ∧ (¬ s.wr = 0 → (Q (some (.int ((-1) - (nI s.at_)))) (MV.u_sz s 0)))))) ∧ (¬ x1 = 0 → (CtM g M_X10_readRule [.ref x0] x0 s (fun r s5 => r = none ∧ (s5.wr < 2 ^ 31 ∧ ((¬ s5.wr = 0 → (s5.wr < 2 ^ 31 ∧ ((¬ s5.wr = 0 → BlkM g M_X10_grade x0 Q 26 [(0, .ref x0), (1, .int (nI 0))] [] s5) ∧ (s5.wr = 0 → ((s5.at_ < 2 ^ 31 ∧ s5.wn < 2 ^ 31) ∧ ((s5.wn ≤ s5.at_ → BlkM g M_X10_grade x0 Q 26 [(0, .ref x0), (1, .int (nI 0))] [] s5) ∧ (s5.at_ < s5.wn → BlkM g M_X10_grade x0 Q 26 [(0, .ref x0), (1, .int (nI 0))] [] (MV.u_wr s5 1)))))))) ∧ (s5.wr = 0 → (CtM g M_X10_is [.ref x0, .int (nI 59), .int (nI 0), .int (nI 0)] x0 s5 (fun r s9 => ∃ v10 : Nat, r = some (.int (nI v10)) ∧ (v10 < 2 ^ 31 ∧ ((v10 = 0 → (s9.wr < 2 ^ 31 ∧ ((¬ s9.wr = 0 → BlkM g M_X10_grade x0 Q 26 [(0, .ref x0), (1, .int (nI 0))] [] s9) ∧ (s9.wr = 0 → ((s9.at_ < 2 ^ 31 ∧ s9.wn < 2 ^ 31) ∧ ((s9.wn ≤ s9.at_ → BlkM g M_X10_grade x0 Q 26 [(0, .ref x0), (1, .int (nI 0))] [] s9) ∧ (s9.at_ < s9.wn → BlkM g M_X10_grade x0 Q 26 [(0, .ref x0), (1, .int (nI 0))] [] (MV.u_wr s9 1)))))))) ∧ (¬ v10 = 0 → BlkM g M_X10_grade x0 Q 26 [(0, .ref x0), (1, .int (nI 1))] [] (MV.u_at_ s9 (s9.at_ + 1)))))))))))))))) : BlkM g M_X10_grade x0 Q 26 [(0, .ref x0), (1, .int (nI x1))] [] s := by
  intro h0 h nx HO HM
  refine r_iload_n 1 dX10_grade_26 rfl rfl ?_
  obtain ⟨c, V⟩ := V
  refine r_if_eqN (tgt := 101) dX10_grade_27 (by decide) c (fun c => ?_) (fun c => ?_)
  · have V := V.1 c
    refine r_aload_n 0 dX10_grade_101 rfl rfl ?_
    refine r_iconst (v := (nI 0)) dX10_grade_102 rfl ?_
    refine r_putf (ci := 11) (kf := 5) (T := TX10) rfl in_X10 tyX10_ok nmX10 (by decide) wF_X10_124 rfl (tyX10_ok 5 (by decide)) dX10_grade_103 (MAt.o_ HM) (Nat.le_of_ble_eq_true rfl) rfl rfl ?_
    obtain ⟨hu1, eu1, HMu1, HOu1⟩ := mo_o HM HO s.cd s.n 0 s.wn s.at_ s.wr s.ru s.dn s.lm s.st s.fr s.up
    refine Blk.eqs ?_ rfl rfl eu1
    replace HMu1 : MAt hu1 x0 (MV.u_sz s 0) := HMu1
    show Blk g M_X10_grade (pM x0 h0 nx Q) 106 [(0, .ref x0), (1, .int (nI x1))] [] hu1 nx 0 0
    refine r_aload_n 0 dX10_grade_106 rfl rfl ?_
    refine r_getf (ci := 11) (kf := 10) (T := TX10) rfl in_X10 (by decide) wF_X10_139 dX10_grade_107 (MAt.o_ HMu1) rfl ?_
    show Blk g M_X10_grade (pM x0 h0 nx Q) 110 [(0, .ref x0), (1, .int (nI x1))] [.int (nI s.wr)] hu1 nx 0 0
    obtain ⟨c, V⟩ := V
    refine r_if_eqN (tgt := 120) dX10_grade_110 (by decide) c (fun c => ?_) (fun c => ?_)
    · have V := V.1 c
      refine r_aload_n 0 dX10_grade_120 rfl rfl ?_
      refine r_aload_n 0 dX10_grade_121 rfl rfl ?_
      refine r_getf (ci := 11) (kf := 13) (T := TX10) rfl in_X10 (by decide) wF_X10_160 dX10_grade_122 (MAt.o_ HMu1) rfl ?_
      show Blk g M_X10_grade (pM x0 h0 nx Q) 125 [(0, .ref x0), (1, .int (nI x1))] [.int (nI s.dn), .ref x0] hu1 nx 0 0
      refine r_putf (ci := 11) (kf := 11) (T := TX10) rfl in_X10 tyX10_ok nmX10 (by decide) wF_X10_79 rfl (tyX10_ok 11 (by decide)) dX10_grade_125 (MAt.o_ HMu1) (Nat.le_of_ble_eq_true rfl) rfl rfl ?_
      obtain ⟨hu2, eu2, HMu2, HOu2⟩ := mo_o HMu1 HOu1 s.cd s.n 0 s.wn s.at_ s.wr s.dn s.dn s.lm s.st s.fr s.up
      refine Blk.eqs ?_ rfl rfl eu2
      replace HMu2 : MAt hu2 x0 (MV.u_ru (MV.u_sz s 0) s.dn) := HMu2
      show Blk g M_X10_grade (pM x0 h0 nx Q) 128 [(0, .ref x0), (1, .int (nI x1))] [] hu2 nx 0 0
      refine r_iconst (v := (nI 0)) dX10_grade_128 rfl ?_
      refine r_istore_n (L' := [(2, .int (nI 0)), (0, .ref x0), (1, .int (nI x1))]) dX10_grade_129 rfl (by decide) rfl ?_
      exact Blk.sub [1, 0] rfl (V _ _ _ HOu2 HMu2)
    · have V := V.2 c
      refine r_iconst (v := (-1)) dX10_grade_113 rfl ?_
      refine r_aload_n 0 dX10_grade_114 rfl rfl ?_
      refine r_getf (ci := 11) (kf := 9) (T := TX10) rfl in_X10 (by decide) wF_X10_136 dX10_grade_115 (MAt.o_ HMu1) rfl ?_
      show Blk g M_X10_grade (pM x0 h0 nx Q) 118 [(0, .ref x0), (1, .int (nI x1))] [.int (nI s.at_), .int (-1)] hu1 nx 0 0
      refine r_isub dX10_grade_118 ?_
      exact r_iret dX10_grade_119 rfl (by decide) (by decide) ⟨rfl, HOu1, _, HMu1, V⟩
  · have V := V.2 c
    refine r_aload_n 0 dX10_grade_30 rfl rfl ?_
    refine r_callV (M2 := M_X10_readRule) (ci := 11) (n := 0) (As := []) rfl (wl5 wM_X10_173 wi_X10_readRule wS_X10_readRule wI_StateSharesModel wc_X10_readRule) (by decide +kernel) (by decide) rfl rfl (Nat.le_of_ble_eq_true rfl) dX10_grade_31 (MAt.o_ HM) (by decide) (by decide) (Ct.imp (V _ _ HM) (fun r h3 n4 V => ?_))
    obtain ⟨rfl, Oh3, s5, HMh3, V⟩ := V
    have HOh3 := Off.tr HO Oh3
    obtain ⟨rfl, V⟩ := V
    show Blk g M_X10_grade (pM x0 h0 nx Q) 34 [(0, .ref x0), (1, .int (nI x1))] [] h3 nx 0 0
    refine r_aload_n 0 dX10_grade_34 rfl rfl ?_
    refine r_getf (ci := 11) (kf := 10) (T := TX10) rfl in_X10 (by decide) wF_X10_139 dX10_grade_35 (MAt.o_ HMh3) rfl ?_
    obtain ⟨c, V⟩ := V
    refine r_if_neN (tgt := 56) dX10_grade_38 (by decide) c (fun c => ?_) (fun c => ?_)
    · have V := V.1 c
      refine r_iconst (v := (nI 0)) dX10_grade_56 rfl ?_
      refine r_istore_n (L' := [(1, .int (nI 0)), (0, .ref x0)]) dX10_grade_57 rfl (by decide) rfl ?_
      refine r_iload_n 0 dX10_grade_58 rfl rfl ?_
      refine r_if_eqN (tgt := 75) dX10_grade_59 (by decide) (by decide) (fun _ => ?_) (fun c => absurd c (by decide))
      refine r_aload_n 1 dX10_grade_75 rfl rfl ?_
      refine r_getf (ci := 11) (kf := 10) (T := TX10) rfl in_X10 (by decide) wF_X10_139 dX10_grade_76 (MAt.o_ HMh3) rfl ?_
      obtain ⟨c, V⟩ := V
      refine r_if_neN (tgt := 26) dX10_grade_79 (by decide) c (fun c => ?_) (fun c => ?_)
      · have V := V.1 c
        exact Blk.sub [1, 0] rfl (V _ _ _ HOh3 HMh3)
      · have V := V.2 c
        refine r_aload_n 1 dX10_grade_82 rfl rfl ?_
        refine r_getf (ci := 11) (kf := 9) (T := TX10) rfl in_X10 (by decide) wF_X10_136 dX10_grade_83 (MAt.o_ HMh3) rfl ?_
        refine r_aload_n 1 dX10_grade_86 rfl rfl ?_
        refine r_getf (ci := 11) (kf := 6) (T := TX10) rfl in_X10 (by decide) wF_X10_127 dX10_grade_87 (MAt.o_ HMh3) rfl ?_
        obtain ⟨c, V⟩ := V
        refine r_icmp_geN (tgt := 26) dX10_grade_90 (by decide) c (fun c => ?_) (fun c => ?_)
        · have V := V.1 c
          exact Blk.sub [1, 0] rfl (V _ _ _ HOh3 HMh3)
        · have V := V.2 c
          refine r_aload_n 1 dX10_grade_93 rfl rfl ?_
          refine r_iconst (v := (nI 1)) dX10_grade_94 rfl ?_
          refine r_putf (ci := 11) (kf := 10) (T := TX10) rfl in_X10 tyX10_ok nmX10 (by decide) wF_X10_139 rfl (tyX10_ok 10 (by decide)) dX10_grade_95 (MAt.o_ HMh3) (Nat.le_of_ble_eq_true rfl) rfl rfl ?_
          obtain ⟨hu6, eu6, HMu6, HOu6⟩ := mo_o HMh3 HOh3 s5.cd s5.n s5.sz s5.wn s5.at_ 1 s5.ru s5.dn s5.lm s5.st s5.fr s5.up
          refine Blk.eqs ?_ rfl rfl eu6
          replace HMu6 : MAt hu6 x0 (MV.u_wr s5 1) := HMu6
          show Blk g M_X10_grade (pM x0 h0 nx Q) 98 [(1, .int (nI 0)), (0, .ref x0)] [] hu6 nx 0 0
          refine r_goto (tgt := 26) dX10_grade_98 (by decide) ?_
          exact Blk.sub [1, 0] rfl (V _ _ _ HOu6 HMu6)
    · have V := V.2 c
      refine r_aload_n 0 dX10_grade_41 rfl rfl ?_
      refine r_bipush (v := (nI 59)) dX10_grade_42 rfl ?_
      refine r_iconst (v := (nI 0)) dX10_grade_44 rfl ?_
      refine r_iconst (v := (nI 0)) dX10_grade_45 rfl ?_
      refine r_callV (M2 := M_X10_is) (ci := 11) (n := 3) (As := [.int (nI 59), .int (nI 0), .int (nI 0)]) rfl (wl5 wM_X10_146 wi_X10_is wS_X10_is wI_StateSharesModel wc_X10_is) (by decide +kernel) (by decide) rfl rfl (Nat.le_of_ble_eq_true rfl) dX10_grade_46 (MAt.o_ HMh3) (by decide) (by decide) (Ct.imp (V _ _ HMh3) (fun r h7 n8 V => ?_))
      obtain ⟨rfl, Oh7, s9, HMh7, V⟩ := V
      have HOh7 := Off.tr HOh3 Oh7
      obtain ⟨v10, rfl, V⟩ := V
      show Blk g M_X10_grade (pM x0 h0 nx Q) 49 [(0, .ref x0), (1, .int (nI x1))] [.int (nI v10)] h7 nx 0 0
      obtain ⟨c, V⟩ := V
      refine r_if_eqN (tgt := 56) dX10_grade_49 (by decide) c (fun c => ?_) (fun c => ?_)
      · have V := V.1 c
        refine r_iconst (v := (nI 0)) dX10_grade_56 rfl ?_
        refine r_istore_n (L' := [(1, .int (nI 0)), (0, .ref x0)]) dX10_grade_57 rfl (by decide) rfl ?_
        refine r_iload_n 0 dX10_grade_58 rfl rfl ?_
        refine r_if_eqN (tgt := 75) dX10_grade_59 (by decide) (by decide) (fun _ => ?_) (fun c => absurd c (by decide))
        refine r_aload_n 1 dX10_grade_75 rfl rfl ?_
        refine r_getf (ci := 11) (kf := 10) (T := TX10) rfl in_X10 (by decide) wF_X10_139 dX10_grade_76 (MAt.o_ HMh7) rfl ?_
        obtain ⟨c, V⟩ := V
        refine r_if_neN (tgt := 26) dX10_grade_79 (by decide) c (fun c => ?_) (fun c => ?_)
        · have V := V.1 c
          exact Blk.sub [1, 0] rfl (V _ _ _ HOh7 HMh7)
        · have V := V.2 c
          refine r_aload_n 1 dX10_grade_82 rfl rfl ?_
          refine r_getf (ci := 11) (kf := 9) (T := TX10) rfl in_X10 (by decide) wF_X10_136 dX10_grade_83 (MAt.o_ HMh7) rfl ?_
          refine r_aload_n 1 dX10_grade_86 rfl rfl ?_
          refine r_getf (ci := 11) (kf := 6) (T := TX10) rfl in_X10 (by decide) wF_X10_127 dX10_grade_87 (MAt.o_ HMh7) rfl ?_
          obtain ⟨c, V⟩ := V
          refine r_icmp_geN (tgt := 26) dX10_grade_90 (by decide) c (fun c => ?_) (fun c => ?_)
          · have V := V.1 c
            exact Blk.sub [1, 0] rfl (V _ _ _ HOh7 HMh7)
          · have V := V.2 c
            refine r_aload_n 1 dX10_grade_93 rfl rfl ?_
            refine r_iconst (v := (nI 1)) dX10_grade_94 rfl ?_
            refine r_putf (ci := 11) (kf := 10) (T := TX10) rfl in_X10 tyX10_ok nmX10 (by decide) wF_X10_139 rfl (tyX10_ok 10 (by decide)) dX10_grade_95 (MAt.o_ HMh7) (Nat.le_of_ble_eq_true rfl) rfl rfl ?_
            obtain ⟨hu11, eu11, HMu11, HOu11⟩ := mo_o HMh7 HOh7 s9.cd s9.n s9.sz s9.wn s9.at_ 1 s9.ru s9.dn s9.lm s9.st s9.fr s9.up
            refine Blk.eqs ?_ rfl rfl eu11
            replace HMu11 : MAt hu11 x0 (MV.u_wr s9 1) := HMu11
            show Blk g M_X10_grade (pM x0 h0 nx Q) 98 [(1, .int (nI 0)), (0, .ref x0)] [] hu11 nx 0 0
            refine r_goto (tgt := 26) dX10_grade_98 (by decide) ?_
            exact Blk.sub [1, 0] rfl (V _ _ _ HOu11 HMu11)
      · have V := V.2 c
        refine r_iconst (v := (nI 1)) dX10_grade_52 rfl ?_
        refine r_goto (tgt := 57) dX10_grade_53 (by decide) ?_
        refine r_istore_n (L' := [(1, .int (nI 1)), (0, .ref x0)]) dX10_grade_57 rfl (by decide) rfl ?_
        refine r_iload_n 0 dX10_grade_58 rfl rfl ?_
        refine r_if_eqN (tgt := 75) dX10_grade_59 (by decide) (by decide) (fun c => absurd c (by decide)) (fun _ => ?_)
        refine r_aload_n 1 dX10_grade_62 rfl rfl ?_
        refine r_dup dX10_grade_63 rfl ?_
        refine r_getf (ci := 11) (kf := 9) (T := TX10) rfl in_X10 (by decide) wF_X10_136 dX10_grade_64 (MAt.o_ HMh7) rfl ?_
        refine r_iconst (v := (nI 1)) dX10_grade_67 rfl ?_
        refine r_iaddN dX10_grade_68 ?_
        refine r_putf (ci := 11) (kf := 9) (T := TX10) rfl in_X10 tyX10_ok nmX10 (by decide) wF_X10_136 rfl (tyX10_ok 9 (by decide)) dX10_grade_69 (MAt.o_ HMh7) (Nat.le_of_ble_eq_true rfl) rfl rfl ?_
        obtain ⟨hu12, eu12, HMu12, HOu12⟩ := mo_o HMh7 HOh7 s9.cd s9.n s9.sz s9.wn (s9.at_ + 1) s9.wr s9.ru s9.dn s9.lm s9.st s9.fr s9.up
        refine Blk.eqs ?_ rfl rfl eu12
        replace HMu12 : MAt hu12 x0 (MV.u_at_ s9 (s9.at_ + 1)) := HMu12
        show Blk g M_X10_grade (pM x0 h0 nx Q) 72 [(1, .int (nI 1)), (0, .ref x0)] [] hu12 nx 0 0
        refine r_goto (tgt := 26) dX10_grade_72 (by decide) ?_
        exact Blk.sub [1, 0] rfl (V _ _ _ HOu12 HMu12)
set_option maxRecDepth 20000 in
theorem v_X10_grade_130 {g : xG} {Q : mQ} {s : MV} {x0 : Nat} {x2 : Nat} (V : ((x2 < 2 ^ 31 ∧ (6 * s.ru) < 2 ^ 31) ∧ (((6 * s.ru) ≤ x2 → (Q (some (.int (nI s.ru))) (MV.u_fr s 0))) ∧ (x2 < (6 * s.ru) → (x2 < 132 ∧ (x2 < 126 ∧ BlkM g M_X10_grade x0 Q 130 [(0, .ref x0), (2, .int (nI (x2 + 1)))] [] (MV.u_rl s (va_up s.rl x2 (s.dr x2))))))))) : BlkM g M_X10_grade x0 Q 130 [(0, .ref x0), (2, .int (nI x2))] [] s := by
  intro h0 h nx HO HM
  refine r_iload_n 1 dX10_grade_130 rfl rfl ?_
  refine r_bipush (v := (nI 6)) dX10_grade_131 rfl ?_
  refine r_aload_n 0 dX10_grade_133 rfl rfl ?_
  refine r_getf (ci := 11) (kf := 11) (T := TX10) rfl in_X10 (by decide) wF_X10_79 dX10_grade_134 (MAt.o_ HM) rfl ?_
  refine r_imulN dX10_grade_137 ?_
  obtain ⟨c, V⟩ := V
  refine r_icmp_geN (tgt := 159) dX10_grade_138 (by decide) c (fun c => ?_) (fun c => ?_)
  · have V := V.1 c
    refine r_aload_n 0 dX10_grade_159 rfl rfl ?_
    refine r_iconst (v := (nI 0)) dX10_grade_160 rfl ?_
    refine r_putf (ci := 11) (kf := 31) (T := TX10) rfl in_X10 tyX10_ok nmX10 (by decide) wF_X10_116 rfl (tyX10_ok 31 (by decide)) dX10_grade_161 (MAt.o_ HM) (Nat.le_of_ble_eq_true rfl) rfl rfl ?_
    obtain ⟨hu1, eu1, HMu1, HOu1⟩ := mo_o HM HO s.cd s.n s.sz s.wn s.at_ s.wr s.ru s.dn s.lm s.st 0 s.up
    refine Blk.eqs ?_ rfl rfl eu1
    replace HMu1 : MAt hu1 x0 (MV.u_fr s 0) := HMu1
    show Blk g M_X10_grade (pM x0 h0 nx Q) 164 [(0, .ref x0), (2, .int (nI x2))] [] hu1 nx 0 0
    refine r_aload_n 0 dX10_grade_164 rfl rfl ?_
    refine r_getf (ci := 11) (kf := 11) (T := TX10) rfl in_X10 (by decide) wF_X10_79 dX10_grade_165 (MAt.o_ HMu1) rfl ?_
    show Blk g M_X10_grade (pM x0 h0 nx Q) 168 [(0, .ref x0), (2, .int (nI x2))] [.int (nI s.ru)] hu1 nx 0 0
    exact r_iret dX10_grade_168 rfl (by decide) (by decide) ⟨rfl, HOu1, _, HMu1, V⟩
  · have V := V.2 c
    refine r_aload_n 0 dX10_grade_141 rfl rfl ?_
    refine r_getf (ci := 11) (kf := 12) (T := TX10) rfl in_X10 (by decide) wF_X10_25 dX10_grade_142 (MAt.o_ HM) rfl ?_
    refine r_iload_n 1 dX10_grade_145 rfl rfl ?_
    refine r_aload_n 0 dX10_grade_146 rfl rfl ?_
    refine r_getf (ci := 11) (kf := 14) (T := TX10) rfl in_X10 (by decide) wF_X10_28 dX10_grade_147 (MAt.o_ HM) rfl ?_
    refine r_iload_n 1 dX10_grade_150 rfl rfl ?_
    obtain ⟨c, V⟩ := V
    refine r_iald dX10_grade_151 (MAt.g_dr HM) rfl c (by decide) ?_
    show Blk g M_X10_grade (pM x0 h0 nx Q) 152 [(0, .ref x0), (2, .int (nI x2))] [.int (s.dr x2), .int (nI x2), .ref (x0 + 6)] h nx 0 0
    obtain ⟨c, V⟩ := V
    refine r_iast dX10_grade_152 (MAt.g_rl HM) rfl c (by decide) ?_
    obtain ⟨hu2, eu2, HMu2, HOu2⟩ := mo_rl HM HO (va_up s.rl x2 (s.dr x2))
    refine Blk.eqs ?_ rfl rfl eu2
    replace HMu2 : MAt hu2 x0 (MV.u_rl s (va_up s.rl x2 (s.dr x2))) := HMu2
    show Blk g M_X10_grade (pM x0 h0 nx Q) 153 [(0, .ref x0), (2, .int (nI x2))] [] hu2 nx 0 0
    refine r_iincN 1 (b := 1) (L' := [(2, .int (nI (x2 + 1))), (0, .ref x0)]) dX10_grade_153 rfl rfl (by decide) rfl ?_
    refine r_goto (tgt := 130) dX10_grade_156 (by decide) ?_
    exact Blk.sub [1, 0] rfl (V _ _ _ HOu2 HMu2)
