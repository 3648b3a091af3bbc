set_option maxRecDepth 20000 in
theorem wM_X10_176 : Cond.methodLink "StateSharesModel" 176 (yX10_amountOf) ∈ lw_gd := lw_in 1222 (by decide +kernel) rfl
set_option maxRecDepth 20000 in
theorem wi_X10_amountOf : Cond.instanceMethod (yX10_amountOf) ∈ lw_gd := lw_in 1224 (by decide +kernel) rfl
set_option maxRecDepth 20000 in
theorem wS_X10_amountOf : Cond.selects "StateSharesModel" (yX10_amountOf) (yX10_amountOf) ∈ lw_gd := lw_inS (q := ((yX10_amountOf), 33)) 48 (by decide +kernel)
set_option maxRecDepth 20000 in
theorem wc_X10_amountOf : Cond.code yX10_amountOf cX10_amountOf 11 (some .int) ∈ lw_gd := lw_in 1225 (by decide +kernel) rfl
set_option maxRecDepth 20000 in
theorem wM_X10_180 : Cond.methodLink "StateSharesModel" 180 (yX10_middleOf) ∈ lw_gd := lw_in 1226 (by decide +kernel) rfl
set_option maxRecDepth 20000 in
theorem wi_X10_middleOf : Cond.instanceMethod (yX10_middleOf) ∈ lw_gd := lw_in 1228 (by decide +kernel) rfl
set_option maxRecDepth 20000 in
theorem wS_X10_middleOf : Cond.selects "StateSharesModel" (yX10_middleOf) (yX10_middleOf) ∈ lw_gd := lw_inS (q := ((yX10_middleOf), 33)) 49 (by decide +kernel)
set_option maxRecDepth 20000 in
theorem wc_X10_middleOf : Cond.code yX10_middleOf cX10_middleOf 6 (some .int) ∈ lw_gd := lw_in 1229 (by decide +kernel) rfl
set_option maxRecDepth 20000 in
theorem wM_X10_184 : Cond.methodLink "StateSharesModel" 184 (yX10_gradeOf) ∈ lw_gd := lw_in 1218 (by decide +kernel) rfl
set_option maxRecDepth 20000 in
theorem wi_X10_gradeOf : Cond.instanceMethod (yX10_gradeOf) ∈ lw_gd := lw_in 1220 (by decide +kernel) rfl
set_option maxRecDepth 20000 in
theorem wS_X10_gradeOf : Cond.selects "StateSharesModel" (yX10_gradeOf) (yX10_gradeOf) ∈ lw_gd := lw_inS (q := ((yX10_gradeOf), 33)) 47 (by decide +kernel)
set_option maxRecDepth 20000 in
theorem wc_X10_gradeOf : Cond.code yX10_gradeOf cX10_gradeOf 8 (some .int) ∈ lw_gd := lw_in 1221 (by decide +kernel) rfl
set_option maxRecDepth 20000 in
theorem wF_X10_31 : Cond.fieldLink "StateSharesModel" 31 "StateSharesModel" "counts" "[I" ∈ lw_gd := lw_in 1047 (by decide +kernel) rfl
set_option maxRecDepth 20000 in
theorem wF_X10_34 : Cond.fieldLink "StateSharesModel" 34 "StateSharesModel" "group" "[I" ∈ lw_gd := lw_in 1048 (by decide +kernel) rfl
set_option maxRecDepth 20000 in
theorem wM_X10_187 : Cond.methodLink "StateSharesModel" 187 (yX10_movesFrom) ∈ lw_gd := lw_in 1242 (by decide +kernel) rfl
set_option maxRecDepth 20000 in
theorem wi_X10_movesFrom : Cond.instanceMethod (yX10_movesFrom) ∈ lw_gd := lw_in 1244 (by decide +kernel) rfl
set_option maxRecDepth 20000 in
theorem wS_X10_movesFrom : Cond.selects "StateSharesModel" (yX10_movesFrom) (yX10_movesFrom) ∈ lw_gd := lw_inS (q := ((yX10_movesFrom), 33)) 51 (by decide +kernel)
set_option maxRecDepth 20000 in
theorem wc_X10_movesFrom : Cond.code yX10_movesFrom cX10_movesFrom 4 (some .int) ∈ lw_gd := lw_in 1245 (by decide +kernel) rfl
set_option maxRecDepth 20000 in
theorem wF_X10_191 : Cond.fieldLink "StateSharesModel" 191 "StateSharesModel" "least" "I" ∈ lw_gd := lw_in 1046 (by decide +kernel) rfl
set_option maxRecDepth 20000 in
theorem wM_X10_194 : Cond.methodLink "StateSharesModel" 194 (yX10_countAll) ∈ lw_gd := lw_in 1238 (by decide +kernel) rfl
set_option maxRecDepth 20000 in
theorem wi_X10_countAll : Cond.instanceMethod (yX10_countAll) ∈ lw_gd := lw_in 1240 (by decide +kernel) rfl
set_option maxRecDepth 20000 in
theorem wS_X10_countAll : Cond.selects "StateSharesModel" (yX10_countAll) (yX10_countAll) ∈ lw_gd := lw_inS (q := ((yX10_countAll), 33)) 50 (by decide +kernel)
set_option maxRecDepth 20000 in
theorem wc_X10_countAll : Cond.code yX10_countAll cX10_countAll 5 none ∈ lw_gd := lw_in 1241 (by decide +kernel) rfl
set_option maxRecDepth 20000 in
theorem wL_X10_197 : Cond.constantLong "StateSharesModel" 197 (50) ∈ lw_gd := lw_in 1250 (by decide +kernel) rfl
set_option maxRecDepth 20000 in
theorem wM_X10_199 : Cond.methodLink "StateSharesModel" 199 (yX10_shifted) ∈ lw_gd := lw_in 1263 (by decide +kernel) rfl
set_option maxRecDepth 20000 in
theorem wi_X10_shifted : Cond.instanceMethod (yX10_shifted) ∈ lw_gd := lw_in 1265 (by decide +kernel) rfl
set_option maxRecDepth 20000 in
theorem wS_X10_shifted : Cond.selects "StateSharesModel" (yX10_shifted) (yX10_shifted) ∈ lw_gd := lw_inS (q := ((yX10_shifted), 33)) 54 (by decide +kernel)
set_option maxRecDepth 20000 in
theorem wc_X10_shifted : Cond.code yX10_shifted cX10_shifted 5 (some .int) ∈ lw_gd := lw_in 1266 (by decide +kernel) rfl
set_option maxRecDepth 20000 in
theorem wM_X10_202 : Cond.methodLink "StateSharesModel" 202 (yX10_shareTotal) ∈ lw_gd := lw_in 1259 (by decide +kernel) rfl
set_option maxRecDepth 20000 in
theorem wi_X10_shareTotal : Cond.instanceMethod (yX10_shareTotal) ∈ lw_gd := lw_in 1261 (by decide +kernel) rfl
set_option maxRecDepth 20000 in
theorem wS_X10_shareTotal : Cond.selects "StateSharesModel" (yX10_shareTotal) (yX10_shareTotal) ∈ lw_gd := lw_inS (q := ((yX10_shareTotal), 33)) 53 (by decide +kernel)
set_option maxRecDepth 20000 in
theorem wc_X10_shareTotal : Cond.code yX10_shareTotal cX10_shareTotal 4 (some .int) ∈ lw_gd := lw_in 1262 (by decide +kernel) rfl
set_option maxRecDepth 20000 in
theorem wM_X10_205 : Cond.methodLink "StateSharesModel" 205 (yX10_shareAbove) ∈ lw_gd := lw_in 1255 (by decide +kernel) rfl
set_option maxRecDepth 20000 in
theorem wi_X10_shareAbove : Cond.instanceMethod (yX10_shareAbove) ∈ lw_gd := lw_in 1257 (by decide +kernel) rfl
set_option maxRecDepth 20000 in
theorem wS_X10_shareAbove : Cond.selects "StateSharesModel" (yX10_shareAbove) (yX10_shareAbove) ∈ lw_gd := lw_inS (q := ((yX10_shareAbove), 33)) 52 (by decide +kernel)
set_option maxRecDepth 20000 in
theorem wc_X10_shareAbove : Cond.code yX10_shareAbove cX10_shareAbove 3 (some .int) ∈ lw_gd := lw_in 1258 (by decide +kernel) rfl
set_option maxRecDepth 20000 in
theorem wM_X10_208 : Cond.methodLink "StateSharesModel" 208 (yX10_shareBelow) ∈ lw_gd := lw_in 1267 (by decide +kernel) rfl
set_option maxRecDepth 20000 in
theorem wi_X10_shareBelow : Cond.instanceMethod (yX10_shareBelow) ∈ lw_gd := lw_in 1269 (by decide +kernel) rfl
set_option maxRecDepth 20000 in
theorem wS_X10_shareBelow : Cond.selects "StateSharesModel" (yX10_shareBelow) (yX10_shareBelow) ∈ lw_gd := lw_inS (q := ((yX10_shareBelow), 33)) 55 (by decide +kernel)
set_option maxRecDepth 20000 in
theorem wc_X10_shareBelow : Cond.code yX10_shareBelow cX10_shareBelow 2 (some .int) ∈ lw_gd := lw_in 1270 (by decide +kernel) rfl
set_option maxRecDepth 20000 in
theorem wM_X10_211 : Cond.methodLink "StateSharesModel" 211 (yX10_divisor) ∈ lw_gd := lw_in 1271 (by decide +kernel) rfl
set_option maxRecDepth 20000 in
theorem ws_X10_divisor : Cond.static (yX10_divisor) ∈ lw_gd := lw_in 1272 (by decide +kernel) rfl
set_option maxRecDepth 20000 in
theorem wc_X10_divisor : Cond.code yX10_divisor cX10_divisor 10 (some .long) ∈ lw_gd := lw_in 1273 (by decide +kernel) rfl
set_option maxRecDepth 20000 in
theorem wL_X10_215 : Cond.constantLong "StateSharesModel" 215 (-1) ∈ lw_gd := lw_in 1282 (by decide +kernel) rfl
set_option maxRecDepth 20000 in
theorem wL_X10_86 : Cond.constantLong "StateSharesModel" 86 (2) ∈ lw_gd := lw_in 1025 (by decide +kernel) rfl
abbrev M_X10_amountOf : xM := (yX10_amountOf, cX10_amountOf, 11, (some .int), { frames := 1, cells := 0, slots := 0, locals := 22 })
abbrev M_X10_count : xM := (yX10_count, cX10_count, 3, (some .int), { frames := 5, cells := 0, slots := 0, locals := 128 })
abbrev M_X10_countAll : xM := (yX10_countAll, cX10_countAll, 5, none, { frames := 4, cells := 0, slots := 0, locals := 104 })
abbrev M_X10_divisor : xM := (yX10_divisor, cX10_divisor, 10, (some .long), { frames := 0, cells := 0, slots := 0, locals := 0 })
abbrev M_X10_gradeOf : xM := (yX10_gradeOf, cX10_gradeOf, 8, (some .int), { frames := 3, cells := 0, slots := 0, locals := 77 })
abbrev M_X10_graded : xM := (yX10_graded, cX10_graded, 3, (some .int), { frames := 4, cells := 0, slots := 0, locals := 104 })
abbrev M_X10_joined : xM := (yX10_joined, cX10_joined, 3, (some .int), { frames := 5, cells := 0, slots := 0, locals := 128 })
abbrev M_X10_least : xM := (yX10_least, cX10_least, 2, (some .boolean), { frames := 1, cells := 0, slots := 0, locals := 25 })
abbrev M_X10_middleOf : xM := (yX10_middleOf, cX10_middleOf, 6, (some .int), { frames := 2, cells := 0, slots := 0, locals := 52 })
abbrev M_X10_missing : xM := (yX10_missing, cX10_missing, 9, (some .int), { frames := 4, cells := 0, slots := 0, locals := 104 })
abbrev M_X10_movesFrom : xM := (yX10_movesFrom, cX10_movesFrom, 4, (some .int), { frames := 0, cells := 0, slots := 0, locals := 0 })
abbrev M_X10_share : xM := (yX10_share, cX10_share, 10, (some .long), { frames := 5, cells := 0, slots := 0, locals := 128 })
abbrev M_X10_shareAbove : xM := (yX10_shareAbove, cX10_shareAbove, 3, (some .int), { frames := 4, cells := 0, slots := 0, locals := 93 })
abbrev M_X10_shareBelow : xM := (yX10_shareBelow, cX10_shareBelow, 2, (some .int), { frames := 4, cells := 0, slots := 0, locals := 93 })
abbrev M_X10_shareTotal : xM := (yX10_shareTotal, cX10_shareTotal, 4, (some .int), { frames := 3, cells := 0, slots := 0, locals := 70 })
abbrev M_X10_shifted : xM := (yX10_shifted, cX10_shifted, 5, (some .int), { frames := 2, cells := 0, slots := 0, locals := 46 })
abbrev M_X10_span : xM := (yX10_span, cX10_span, 9, (some .long), { frames := 5, cells := 0, slots := 0, locals := 128 })
theorem dX10_amountOf_0 : decode cX10_amountOf 0 = .ok (.iconst 0, 1) := by decide +kernel
theorem dX10_amountOf_1 : decode cX10_amountOf 1 = .ok (.istore 5, 2) := by decide +kernel
theorem dX10_amountOf_3 : decode cX10_amountOf 3 = .ok (.iconst (-1), 1) := by decide +kernel
theorem dX10_amountOf_4 : decode cX10_amountOf 4 = .ok (.istore 6, 2) := by decide +kernel
theorem dX10_amountOf_6 : decode cX10_amountOf 6 = .ok (.bipush 6, 2) := by decide +kernel
theorem dX10_amountOf_8 : decode cX10_amountOf 8 = .ok (.istore 7, 2) := by decide +kernel
theorem dX10_amountOf_10 : decode cX10_amountOf 10 = .ok (.iconst 0, 1) := by decide +kernel
theorem dX10_amountOf_11 : decode cX10_amountOf 11 = .ok (.istore 8, 2) := by decide +kernel
theorem dX10_amountOf_13 : decode cX10_amountOf 13 = .ok (.iconst 0, 1) := by decide +kernel
theorem dX10_amountOf_14 : decode cX10_amountOf 14 = .ok (.istore 9, 2) := by decide +kernel
theorem dX10_amountOf_16 : decode cX10_amountOf 16 = .ok (.iload 9, 2) := by decide +kernel
theorem dX10_amountOf_18 : decode cX10_amountOf 18 = .ok (.iconst 4, 1) := by decide +kernel
theorem dX10_amountOf_19 : decode cX10_amountOf 19 = .ok (.if_icmp .ge 100, 3) := by decide +kernel
theorem dX10_amountOf_22 : decode cX10_amountOf 22 = .ok (.aload_n 0, 1) := by decide +kernel
theorem dX10_amountOf_23 : decode cX10_amountOf 23 = .ok (.getfield 7, 3) := by decide +kernel
theorem dX10_amountOf_26 : decode cX10_amountOf 26 = .ok (.iload_n 1, 1) := by decide +kernel
theorem dX10_amountOf_27 : decode cX10_amountOf 27 = .ok (.iload_n 2, 1) := by decide +kernel
theorem dX10_amountOf_28 : decode cX10_amountOf 28 = .ok (.iload 9, 2) := by decide +kernel
theorem dX10_amountOf_30 : decode cX10_amountOf 30 = .ok (.invokestatic 112, 3) := by decide +kernel
theorem dX10_amountOf_33 : decode cX10_amountOf 33 = .ok (.iaload, 1) := by decide +kernel
theorem dX10_amountOf_34 : decode cX10_amountOf 34 = .ok (.istore 10, 2) := by decide +kernel
theorem dX10_amountOf_36 : decode cX10_amountOf 36 = .ok (.iload 5, 2) := by decide +kernel
theorem dX10_amountOf_38 : decode cX10_amountOf 38 = .ok (.iload 10, 2) := by decide +kernel
theorem dX10_amountOf_40 : decode cX10_amountOf 40 = .ok (.iconst (-1), 1) := by decide +kernel
theorem dX10_amountOf_41 : decode cX10_amountOf 41 = .ok (.if_icmp .ne 7, 3) := by decide +kernel
theorem dX10_amountOf_44 : decode cX10_amountOf 44 = .ok (.iconst 0, 1) := by decide +kernel
theorem dX10_amountOf_45 : decode cX10_amountOf 45 = .ok (.goto 4, 3) := by decide +kernel
theorem dX10_amountOf_48 : decode cX10_amountOf 48 = .ok (.iconst 1, 1) := by decide +kernel
theorem dX10_amountOf_49 : decode cX10_amountOf 49 = .ok (.iadd, 1) := by decide +kernel
theorem dX10_amountOf_50 : decode cX10_amountOf 50 = .ok (.istore 5, 2) := by decide +kernel
theorem dX10_amountOf_52 : decode cX10_amountOf 52 = .ok (.iload 10, 2) := by decide +kernel
theorem dX10_amountOf_54 : decode cX10_amountOf 54 = .ok (.iload 6, 2) := by decide +kernel
theorem dX10_amountOf_56 : decode cX10_amountOf 56 = .ok (.if_icmp .le 8, 3) := by decide +kernel
theorem dX10_amountOf_59 : decode cX10_amountOf 59 = .ok (.iload 10, 2) := by decide +kernel
theorem dX10_amountOf_61 : decode cX10_amountOf 61 = .ok (.goto 5, 3) := by decide +kernel
theorem dX10_amountOf_64 : decode cX10_amountOf 64 = .ok (.iload 6, 2) := by decide +kernel
theorem dX10_amountOf_66 : decode cX10_amountOf 66 = .ok (.istore 6, 2) := by decide +kernel
theorem dX10_amountOf_68 : decode cX10_amountOf 68 = .ok (.iload 10, 2) := by decide +kernel
theorem dX10_amountOf_70 : decode cX10_amountOf 70 = .ok (.iconst (-1), 1) := by decide +kernel
theorem dX10_amountOf_71 : decode cX10_amountOf 71 = .ok (.if_icmp .eq 15, 3) := by decide +kernel
theorem dX10_amountOf_74 : decode cX10_amountOf 74 = .ok (.iload 10, 2) := by decide +kernel
theorem dX10_amountOf_76 : decode cX10_amountOf 76 = .ok (.iload 7, 2) := by decide +kernel
theorem dX10_amountOf_78 : decode cX10_amountOf 78 = .ok (.if_icmp .ge 8, 3) := by decide +kernel
theorem dX10_amountOf_81 : decode cX10_amountOf 81 = .ok (.iload 10, 2) := by decide +kernel
theorem dX10_amountOf_83 : decode cX10_amountOf 83 = .ok (.goto 5, 3) := by decide +kernel
theorem dX10_amountOf_86 : decode cX10_amountOf 86 = .ok (.iload 7, 2) := by decide +kernel
theorem dX10_amountOf_88 : decode cX10_amountOf 88 = .ok (.istore 7, 2) := by decide +kernel
theorem dX10_amountOf_90 : decode cX10_amountOf 90 = .ok (.iload 8, 2) := by decide +kernel
theorem dX10_amountOf_92 : decode cX10_amountOf 92 = .ok (.iload 10, 2) := by decide +kernel
theorem dX10_amountOf_94 : decode cX10_amountOf 94 = .ok (.iconst (-1), 1) := by decide +kernel
theorem dX10_amountOf_95 : decode cX10_amountOf 95 = .ok (.if_icmp .eq 14, 3) := by decide +kernel
theorem dX10_amountOf_98 : decode cX10_amountOf 98 = .ok (.iload 10, 2) := by decide +kernel
theorem dX10_amountOf_100 : decode cX10_amountOf 100 = .ok (.iload 4, 2) := by decide +kernel
theorem dX10_amountOf_102 : decode cX10_amountOf 102 = .ok (.if_icmp .ne 7, 3) := by decide +kernel
theorem dX10_amountOf_105 : decode cX10_amountOf 105 = .ok (.iconst 1, 1) := by decide +kernel
theorem dX10_amountOf_106 : decode cX10_amountOf 106 = .ok (.goto 4, 3) := by decide +kernel
theorem dX10_amountOf_109 : decode cX10_amountOf 109 = .ok (.iconst 0, 1) := by decide +kernel
theorem dX10_amountOf_110 : decode cX10_amountOf 110 = .ok (.iadd, 1) := by decide +kernel
theorem dX10_amountOf_111 : decode cX10_amountOf 111 = .ok (.istore 8, 2) := by decide +kernel
theorem dX10_amountOf_113 : decode cX10_amountOf 113 = .ok (.iinc 9 1, 3) := by decide +kernel
theorem dX10_amountOf_116 : decode cX10_amountOf 116 = .ok (.goto (-100), 3) := by decide +kernel
theorem dX10_amountOf_119 : decode cX10_amountOf 119 = .ok (.iload_n 3, 1) := by decide +kernel
theorem dX10_amountOf_120 : decode cX10_amountOf 120 = .ok (.iconst 1, 1) := by decide +kernel
theorem dX10_amountOf_121 : decode cX10_amountOf 121 = .ok (.if_icmp .ne 8, 3) := by decide +kernel
theorem dX10_amountOf_124 : decode cX10_amountOf 124 = .ok (.iload 5, 2) := by decide +kernel
theorem dX10_amountOf_126 : decode cX10_amountOf 126 = .ok (.goto 25, 3) := by decide +kernel
theorem dX10_amountOf_129 : decode cX10_amountOf 129 = .ok (.iload_n 3, 1) := by decide +kernel
theorem dX10_amountOf_130 : decode cX10_amountOf 130 = .ok (.iconst 2, 1) := by decide +kernel
theorem dX10_amountOf_131 : decode cX10_amountOf 131 = .ok (.if_icmp .ne 8, 3) := by decide +kernel
theorem dX10_amountOf_134 : decode cX10_amountOf 134 = .ok (.iload 6, 2) := by decide +kernel
theorem dX10_amountOf_136 : decode cX10_amountOf 136 = .ok (.goto 15, 3) := by decide +kernel
theorem dX10_amountOf_139 : decode cX10_amountOf 139 = .ok (.iload_n 3, 1) := by decide +kernel
theorem dX10_amountOf_140 : decode cX10_amountOf 140 = .ok (.iconst 3, 1) := by decide +kernel
theorem dX10_amountOf_141 : decode cX10_amountOf 141 = .ok (.if_icmp .ne 8, 3) := by decide +kernel
theorem dX10_amountOf_144 : decode cX10_amountOf 144 = .ok (.iload 7, 2) := by decide +kernel
theorem dX10_amountOf_146 : decode cX10_amountOf 146 = .ok (.goto 5, 3) := by decide +kernel
theorem dX10_amountOf_149 : decode cX10_amountOf 149 = .ok (.iload 8, 2) := by decide +kernel
theorem dX10_amountOf_151 : decode cX10_amountOf 151 = .ok (.ireturn, 1) := by decide +kernel
theorem dX10_middleOf_0 : decode cX10_middleOf 0 = .ok (.aload_n 0, 1) := by decide +kernel
theorem dX10_middleOf_1 : decode cX10_middleOf 1 = .ok (.iload_n 1, 1) := by decide +kernel
theorem dX10_middleOf_2 : decode cX10_middleOf 2 = .ok (.iload_n 2, 1) := by decide +kernel
theorem dX10_middleOf_3 : decode cX10_middleOf 3 = .ok (.iconst 1, 1) := by decide +kernel
theorem dX10_middleOf_4 : decode cX10_middleOf 4 = .ok (.iconst 0, 1) := by decide +kernel
theorem dX10_middleOf_5 : decode cX10_middleOf 5 = .ok (.invokevirtual 176, 3) := by decide +kernel
theorem dX10_middleOf_8 : decode cX10_middleOf 8 = .ok (.istore_n 3, 1) := by decide +kernel
theorem dX10_middleOf_9 : decode cX10_middleOf 9 = .ok (.iconst 0, 1) := by decide +kernel
theorem dX10_middleOf_10 : decode cX10_middleOf 10 = .ok (.istore 4, 2) := by decide +kernel
theorem dX10_middleOf_12 : decode cX10_middleOf 12 = .ok (.iconst 0, 1) := by decide +kernel
theorem dX10_middleOf_13 : decode cX10_middleOf 13 = .ok (.istore 5, 2) := by decide +kernel
theorem dX10_middleOf_15 : decode cX10_middleOf 15 = .ok (.iload 5, 2) := by decide +kernel
theorem dX10_middleOf_17 : decode cX10_middleOf 17 = .ok (.aload_n 0, 1) := by decide +kernel
theorem dX10_middleOf_18 : decode cX10_middleOf 18 = .ok (.getfield 75, 3) := by decide +kernel
theorem dX10_middleOf_21 : decode cX10_middleOf 21 = .ok (.if_icmp .ge 34, 3) := by decide +kernel
theorem dX10_middleOf_24 : decode cX10_middleOf 24 = .ok (.iload 4, 2) := by decide +kernel
theorem dX10_middleOf_26 : decode cX10_middleOf 26 = .ok (.aload_n 0, 1) := by decide +kernel
theorem dX10_middleOf_27 : decode cX10_middleOf 27 = .ok (.iload_n 1, 1) := by decide +kernel
theorem dX10_middleOf_28 : decode cX10_middleOf 28 = .ok (.iload_n 2, 1) := by decide +kernel
theorem dX10_middleOf_29 : decode cX10_middleOf 29 = .ok (.iconst 4, 1) := by decide +kernel
theorem dX10_middleOf_30 : decode cX10_middleOf 30 = .ok (.iload 5, 2) := by decide +kernel
theorem dX10_middleOf_32 : decode cX10_middleOf 32 = .ok (.invokevirtual 176, 3) := by decide +kernel
theorem dX10_middleOf_35 : decode cX10_middleOf 35 = .ok (.iadd, 1) := by decide +kernel
theorem dX10_middleOf_36 : decode cX10_middleOf 36 = .ok (.istore 4, 2) := by decide +kernel
theorem dX10_middleOf_38 : decode cX10_middleOf 38 = .ok (.iload 4, 2) := by decide +kernel
theorem dX10_middleOf_40 : decode cX10_middleOf 40 = .ok (.iload_n 3, 1) := by decide +kernel
theorem dX10_middleOf_41 : decode cX10_middleOf 41 = .ok (.iconst 2, 1) := by decide +kernel
theorem dX10_middleOf_42 : decode cX10_middleOf 42 = .ok (.idiv, 1) := by decide +kernel
theorem dX10_middleOf_43 : decode cX10_middleOf 43 = .ok (.if_icmp .le 6, 3) := by decide +kernel
theorem dX10_middleOf_46 : decode cX10_middleOf 46 = .ok (.iload 5, 2) := by decide +kernel
theorem dX10_middleOf_48 : decode cX10_middleOf 48 = .ok (.ireturn, 1) := by decide +kernel
theorem dX10_middleOf_49 : decode cX10_middleOf 49 = .ok (.iinc 5 1, 3) := by decide +kernel
theorem dX10_middleOf_52 : decode cX10_middleOf 52 = .ok (.goto (-37), 3) := by decide +kernel
theorem dX10_middleOf_55 : decode cX10_middleOf 55 = .ok (.iconst (-1), 1) := by decide +kernel
theorem dX10_middleOf_56 : decode cX10_middleOf 56 = .ok (.ireturn, 1) := by decide +kernel
theorem dX10_gradeOf_0 : decode cX10_gradeOf 0 = .ok (.aload_n 0, 1) := by decide +kernel
theorem dX10_gradeOf_1 : decode cX10_gradeOf 1 = .ok (.iload_n 1, 1) := by decide +kernel
theorem dX10_gradeOf_2 : decode cX10_gradeOf 2 = .ok (.iload_n 2, 1) := by decide +kernel
theorem dX10_gradeOf_3 : decode cX10_gradeOf 3 = .ok (.iconst 1, 1) := by decide +kernel
theorem dX10_gradeOf_4 : decode cX10_gradeOf 4 = .ok (.iconst 0, 1) := by decide +kernel
theorem dX10_gradeOf_5 : decode cX10_gradeOf 5 = .ok (.invokevirtual 176, 3) := by decide +kernel
theorem dX10_gradeOf_8 : decode cX10_gradeOf 8 = .ok (.ifCond .ne 5, 3) := by decide +kernel
theorem dX10_gradeOf_11 : decode cX10_gradeOf 11 = .ok (.iconst (-1), 1) := by decide +kernel
theorem dX10_gradeOf_12 : decode cX10_gradeOf 12 = .ok (.ireturn, 1) := by decide +kernel
theorem dX10_gradeOf_13 : decode cX10_gradeOf 13 = .ok (.iconst 0, 1) := by decide +kernel
theorem dX10_gradeOf_14 : decode cX10_gradeOf 14 = .ok (.istore_n 3, 1) := by decide +kernel
theorem dX10_gradeOf_15 : decode cX10_gradeOf 15 = .ok (.iload_n 3, 1) := by decide +kernel
theorem dX10_gradeOf_16 : decode cX10_gradeOf 16 = .ok (.aload_n 0, 1) := by decide +kernel
theorem dX10_gradeOf_17 : decode cX10_gradeOf 17 = .ok (.getfield 79, 3) := by decide +kernel
theorem dX10_gradeOf_20 : decode cX10_gradeOf 20 = .ok (.if_icmp .ge 198, 3) := by decide +kernel
theorem dX10_gradeOf_23 : decode cX10_gradeOf 23 = .ok (.bipush 6, 2) := by decide +kernel
theorem dX10_gradeOf_25 : decode cX10_gradeOf 25 = .ok (.iload_n 3, 1) := by decide +kernel
theorem dX10_gradeOf_26 : decode cX10_gradeOf 26 = .ok (.imul, 1) := by decide +kernel
theorem dX10_gradeOf_27 : decode cX10_gradeOf 27 = .ok (.istore 4, 2) := by decide +kernel
theorem dX10_gradeOf_29 : decode cX10_gradeOf 29 = .ok (.aload_n 0, 1) := by decide +kernel
theorem dX10_gradeOf_30 : decode cX10_gradeOf 30 = .ok (.iload_n 1, 1) := by decide +kernel
theorem dX10_gradeOf_31 : decode cX10_gradeOf 31 = .ok (.iload_n 2, 1) := by decide +kernel
theorem dX10_gradeOf_32 : decode cX10_gradeOf 32 = .ok (.aload_n 0, 1) := by decide +kernel
theorem dX10_gradeOf_33 : decode cX10_gradeOf 33 = .ok (.getfield 25, 3) := by decide +kernel
theorem dX10_gradeOf_36 : decode cX10_gradeOf 36 = .ok (.iload 4, 2) := by decide +kernel
theorem dX10_gradeOf_38 : decode cX10_gradeOf 38 = .ok (.iaload, 1) := by decide +kernel
theorem dX10_gradeOf_39 : decode cX10_gradeOf 39 = .ok (.aload_n 0, 1) := by decide +kernel
theorem dX10_gradeOf_40 : decode cX10_gradeOf 40 = .ok (.getfield 25, 3) := by decide +kernel
theorem dX10_gradeOf_43 : decode cX10_gradeOf 43 = .ok (.iload 4, 2) := by decide +kernel
theorem dX10_gradeOf_45 : decode cX10_gradeOf 45 = .ok (.iconst 1, 1) := by decide +kernel
theorem dX10_gradeOf_46 : decode cX10_gradeOf 46 = .ok (.iadd, 1) := by decide +kernel
theorem dX10_gradeOf_47 : decode cX10_gradeOf 47 = .ok (.iaload, 1) := by decide +kernel
theorem dX10_gradeOf_48 : decode cX10_gradeOf 48 = .ok (.invokevirtual 176, 3) := by decide +kernel
theorem dX10_gradeOf_51 : decode cX10_gradeOf 51 = .ok (.istore 5, 2) := by decide +kernel
theorem dX10_gradeOf_53 : decode cX10_gradeOf 53 = .ok (.aload_n 0, 1) := by decide +kernel
theorem dX10_gradeOf_54 : decode cX10_gradeOf 54 = .ok (.getfield 25, 3) := by decide +kernel
theorem dX10_gradeOf_57 : decode cX10_gradeOf 57 = .ok (.iload 4, 2) := by decide +kernel
theorem dX10_gradeOf_59 : decode cX10_gradeOf 59 = .ok (.iconst 3, 1) := by decide +kernel
theorem dX10_gradeOf_60 : decode cX10_gradeOf 60 = .ok (.iadd, 1) := by decide +kernel
theorem dX10_gradeOf_61 : decode cX10_gradeOf 61 = .ok (.iaload, 1) := by decide +kernel
theorem dX10_gradeOf_62 : decode cX10_gradeOf 62 = .ok (.istore 6, 2) := by decide +kernel
theorem dX10_gradeOf_64 : decode cX10_gradeOf 64 = .ok (.aload_n 0, 1) := by decide +kernel
theorem dX10_gradeOf_65 : decode cX10_gradeOf 65 = .ok (.getfield 25, 3) := by decide +kernel
theorem dX10_gradeOf_68 : decode cX10_gradeOf 68 = .ok (.iload 4, 2) := by decide +kernel
theorem dX10_gradeOf_70 : decode cX10_gradeOf 70 = .ok (.iaload, 1) := by decide +kernel
theorem dX10_gradeOf_71 : decode cX10_gradeOf 71 = .ok (.ifCond .eq 66, 3) := by decide +kernel
theorem dX10_gradeOf_74 : decode cX10_gradeOf 74 = .ok (.aload_n 0, 1) := by decide +kernel
theorem dX10_gradeOf_75 : decode cX10_gradeOf 75 = .ok (.getfield 25, 3) := by decide +kernel
theorem dX10_gradeOf_78 : decode cX10_gradeOf 78 = .ok (.iload 4, 2) := by decide +kernel
theorem dX10_gradeOf_80 : decode cX10_gradeOf 80 = .ok (.iconst 2, 1) := by decide +kernel
theorem dX10_gradeOf_81 : decode cX10_gradeOf 81 = .ok (.iadd, 1) := by decide +kernel
theorem dX10_gradeOf_82 : decode cX10_gradeOf 82 = .ok (.iaload, 1) := by decide +kernel
theorem dX10_gradeOf_83 : decode cX10_gradeOf 83 = .ok (.bipush 60, 2) := by decide +kernel
theorem dX10_gradeOf_85 : decode cX10_gradeOf 85 = .ok (.if_icmp .ne 10, 3) := by decide +kernel
theorem dX10_gradeOf_88 : decode cX10_gradeOf 88 = .ok (.iload 5, 2) := by decide +kernel
theorem dX10_gradeOf_90 : decode cX10_gradeOf 90 = .ok (.iload 6, 2) := by decide +kernel
theorem dX10_gradeOf_92 : decode cX10_gradeOf 92 = .ok (.if_icmp .lt 45, 3) := by decide +kernel
theorem dX10_gradeOf_95 : decode cX10_gradeOf 95 = .ok (.aload_n 0, 1) := by decide +kernel
theorem dX10_gradeOf_96 : decode cX10_gradeOf 96 = .ok (.getfield 25, 3) := by decide +kernel
theorem dX10_gradeOf_99 : decode cX10_gradeOf 99 = .ok (.iload 4, 2) := by decide +kernel
theorem dX10_gradeOf_101 : decode cX10_gradeOf 101 = .ok (.iconst 2, 1) := by decide +kernel
theorem dX10_gradeOf_102 : decode cX10_gradeOf 102 = .ok (.iadd, 1) := by decide +kernel
theorem dX10_gradeOf_103 : decode cX10_gradeOf 103 = .ok (.iaload, 1) := by decide +kernel
theorem dX10_gradeOf_104 : decode cX10_gradeOf 104 = .ok (.bipush 61, 2) := by decide +kernel
theorem dX10_gradeOf_106 : decode cX10_gradeOf 106 = .ok (.if_icmp .ne 10, 3) := by decide +kernel
theorem dX10_gradeOf_109 : decode cX10_gradeOf 109 = .ok (.iload 5, 2) := by decide +kernel
theorem dX10_gradeOf_111 : decode cX10_gradeOf 111 = .ok (.iload 6, 2) := by decide +kernel
theorem dX10_gradeOf_113 : decode cX10_gradeOf 113 = .ok (.if_icmp .eq 24, 3) := by decide +kernel
theorem dX10_gradeOf_116 : decode cX10_gradeOf 116 = .ok (.aload_n 0, 1) := by decide +kernel
theorem dX10_gradeOf_117 : decode cX10_gradeOf 117 = .ok (.getfield 25, 3) := by decide +kernel
theorem dX10_gradeOf_120 : decode cX10_gradeOf 120 = .ok (.iload 4, 2) := by decide +kernel
theorem dX10_gradeOf_122 : decode cX10_gradeOf 122 = .ok (.iconst 2, 1) := by decide +kernel
theorem dX10_gradeOf_123 : decode cX10_gradeOf 123 = .ok (.iadd, 1) := by decide +kernel
theorem dX10_gradeOf_124 : decode cX10_gradeOf 124 = .ok (.iaload, 1) := by decide +kernel
theorem dX10_gradeOf_125 : decode cX10_gradeOf 125 = .ok (.bipush 62, 2) := by decide +kernel
theorem dX10_gradeOf_127 : decode cX10_gradeOf 127 = .ok (.if_icmp .ne 14, 3) := by decide +kernel
theorem dX10_gradeOf_130 : decode cX10_gradeOf 130 = .ok (.iload 5, 2) := by decide +kernel
theorem dX10_gradeOf_132 : decode cX10_gradeOf 132 = .ok (.iload 6, 2) := by decide +kernel
theorem dX10_gradeOf_134 : decode cX10_gradeOf 134 = .ok (.if_icmp .le 7, 3) := by decide +kernel
theorem dX10_gradeOf_137 : decode cX10_gradeOf 137 = .ok (.iconst 1, 1) := by decide +kernel
theorem dX10_gradeOf_138 : decode cX10_gradeOf 138 = .ok (.goto 4, 3) := by decide +kernel
theorem dX10_gradeOf_141 : decode cX10_gradeOf 141 = .ok (.iconst 0, 1) := by decide +kernel
theorem dX10_gradeOf_142 : decode cX10_gradeOf 142 = .ok (.istore 7, 2) := by decide +kernel
theorem dX10_gradeOf_144 : decode cX10_gradeOf 144 = .ok (.iload 7, 2) := by decide +kernel
theorem dX10_gradeOf_146 : decode cX10_gradeOf 146 = .ok (.ifCond .eq 66, 3) := by decide +kernel
theorem dX10_gradeOf_149 : decode cX10_gradeOf 149 = .ok (.aload_n 0, 1) := by decide +kernel
theorem dX10_gradeOf_150 : decode cX10_gradeOf 150 = .ok (.getfield 25, 3) := by decide +kernel
theorem dX10_gradeOf_153 : decode cX10_gradeOf 153 = .ok (.iload 4, 2) := by decide +kernel
theorem dX10_gradeOf_155 : decode cX10_gradeOf 155 = .ok (.iconst 4, 1) := by decide +kernel
theorem dX10_gradeOf_156 : decode cX10_gradeOf 156 = .ok (.iadd, 1) := by decide +kernel
theorem dX10_gradeOf_157 : decode cX10_gradeOf 157 = .ok (.iaload, 1) := by decide +kernel
theorem dX10_gradeOf_158 : decode cX10_gradeOf 158 = .ok (.ifCond .ne 15, 3) := by decide +kernel
theorem dX10_gradeOf_161 : decode cX10_gradeOf 161 = .ok (.aload_n 0, 1) := by decide +kernel
theorem dX10_gradeOf_162 : decode cX10_gradeOf 162 = .ok (.getfield 25, 3) := by decide +kernel
theorem dX10_gradeOf_165 : decode cX10_gradeOf 165 = .ok (.iload 4, 2) := by decide +kernel
theorem dX10_gradeOf_167 : decode cX10_gradeOf 167 = .ok (.iconst 5, 1) := by decide +kernel
theorem dX10_gradeOf_168 : decode cX10_gradeOf 168 = .ok (.iadd, 1) := by decide +kernel
theorem dX10_gradeOf_169 : decode cX10_gradeOf 169 = .ok (.iaload, 1) := by decide +kernel
theorem dX10_gradeOf_170 : decode cX10_gradeOf 170 = .ok (.goto 41, 3) := by decide +kernel
theorem dX10_gradeOf_173 : decode cX10_gradeOf 173 = .ok (.aload_n 0, 1) := by decide +kernel
theorem dX10_gradeOf_174 : decode cX10_gradeOf 174 = .ok (.getfield 25, 3) := by decide +kernel
theorem dX10_gradeOf_177 : decode cX10_gradeOf 177 = .ok (.iload 4, 2) := by decide +kernel
theorem dX10_gradeOf_179 : decode cX10_gradeOf 179 = .ok (.iconst 4, 1) := by decide +kernel
theorem dX10_gradeOf_180 : decode cX10_gradeOf 180 = .ok (.iadd, 1) := by decide +kernel
theorem dX10_gradeOf_181 : decode cX10_gradeOf 181 = .ok (.iaload, 1) := by decide +kernel
theorem dX10_gradeOf_182 : decode cX10_gradeOf 182 = .ok (.iconst 5, 1) := by decide +kernel
theorem dX10_gradeOf_183 : decode cX10_gradeOf 183 = .ok (.if_icmp .ne 12, 3) := by decide +kernel
theorem dX10_gradeOf_186 : decode cX10_gradeOf 186 = .ok (.aload_n 0, 1) := by decide +kernel
theorem dX10_gradeOf_187 : decode cX10_gradeOf 187 = .ok (.iload_n 1, 1) := by decide +kernel
theorem dX10_gradeOf_188 : decode cX10_gradeOf 188 = .ok (.iload_n 2, 1) := by decide +kernel
theorem dX10_gradeOf_189 : decode cX10_gradeOf 189 = .ok (.invokevirtual 180, 3) := by decide +kernel
theorem dX10_gradeOf_192 : decode cX10_gradeOf 192 = .ok (.goto 19, 3) := by decide +kernel
theorem dX10_gradeOf_195 : decode cX10_gradeOf 195 = .ok (.aload_n 0, 1) := by decide +kernel
theorem dX10_gradeOf_196 : decode cX10_gradeOf 196 = .ok (.iload_n 1, 1) := by decide +kernel
theorem dX10_gradeOf_197 : decode cX10_gradeOf 197 = .ok (.iload_n 2, 1) := by decide +kernel
theorem dX10_gradeOf_198 : decode cX10_gradeOf 198 = .ok (.aload_n 0, 1) := by decide +kernel
theorem dX10_gradeOf_199 : decode cX10_gradeOf 199 = .ok (.getfield 25, 3) := by decide +kernel
theorem dX10_gradeOf_202 : decode cX10_gradeOf 202 = .ok (.iload 4, 2) := by decide +kernel
theorem dX10_gradeOf_204 : decode cX10_gradeOf 204 = .ok (.iconst 4, 1) := by decide +kernel
theorem dX10_gradeOf_205 : decode cX10_gradeOf 205 = .ok (.iadd, 1) := by decide +kernel
theorem dX10_gradeOf_206 : decode cX10_gradeOf 206 = .ok (.iaload, 1) := by decide +kernel
theorem dX10_gradeOf_207 : decode cX10_gradeOf 207 = .ok (.iconst 0, 1) := by decide +kernel
theorem dX10_gradeOf_208 : decode cX10_gradeOf 208 = .ok (.invokevirtual 176, 3) := by decide +kernel
theorem dX10_gradeOf_211 : decode cX10_gradeOf 211 = .ok (.ireturn, 1) := by decide +kernel
theorem dX10_gradeOf_212 : decode cX10_gradeOf 212 = .ok (.iinc 3 1, 3) := by decide +kernel
theorem dX10_gradeOf_215 : decode cX10_gradeOf 215 = .ok (.goto (-200), 3) := by decide +kernel
theorem dX10_gradeOf_218 : decode cX10_gradeOf 218 = .ok (.aload_n 0, 1) := by decide +kernel
theorem dX10_gradeOf_219 : decode cX10_gradeOf 219 = .ok (.iload_n 1, 1) := by decide +kernel
theorem dX10_gradeOf_220 : decode cX10_gradeOf 220 = .ok (.iload_n 2, 1) := by decide +kernel
theorem dX10_gradeOf_221 : decode cX10_gradeOf 221 = .ok (.iconst 2, 1) := by decide +kernel
theorem dX10_gradeOf_222 : decode cX10_gradeOf 222 = .ok (.iconst 0, 1) := by decide +kernel
theorem dX10_gradeOf_223 : decode cX10_gradeOf 223 = .ok (.invokevirtual 176, 3) := by decide +kernel
theorem dX10_gradeOf_226 : decode cX10_gradeOf 226 = .ok (.ireturn, 1) := by decide +kernel
theorem dX10_graded_0 : decode cX10_graded 0 = .ok (.aload_n 0, 1) := by decide +kernel
theorem dX10_graded_1 : decode cX10_graded 1 = .ok (.iconst 0, 1) := by decide +kernel
theorem dX10_graded_2 : decode cX10_graded 2 = .ok (.putfield 91, 3) := by decide +kernel
theorem dX10_graded_5 : decode cX10_graded 5 = .ok (.aload_n 0, 1) := by decide +kernel
theorem dX10_graded_6 : decode cX10_graded 6 = .ok (.iload_n 1, 1) := by decide +kernel
theorem dX10_graded_7 : decode cX10_graded 7 = .ok (.iload_n 2, 1) := by decide +kernel
theorem dX10_graded_8 : decode cX10_graded 8 = .ok (.invokevirtual 102, 3) := by decide +kernel
theorem dX10_graded_11 : decode cX10_graded 11 = .ok (.ifCond .eq 12, 3) := by decide +kernel
theorem dX10_graded_14 : decode cX10_graded 14 = .ok (.aload_n 0, 1) := by decide +kernel
theorem dX10_graded_15 : decode cX10_graded 15 = .ok (.iload_n 1, 1) := by decide +kernel
theorem dX10_graded_16 : decode cX10_graded 16 = .ok (.iload_n 2, 1) := by decide +kernel
theorem dX10_graded_17 : decode cX10_graded 17 = .ok (.invokevirtual 184, 3) := by decide +kernel
theorem dX10_graded_20 : decode cX10_graded 20 = .ok (.goto 4, 3) := by decide +kernel
theorem dX10_graded_23 : decode cX10_graded 23 = .ok (.iconst (-1), 1) := by decide +kernel
theorem dX10_graded_24 : decode cX10_graded 24 = .ok (.ireturn, 1) := by decide +kernel
theorem dX10_missing_0 : decode cX10_missing 0 = .ok (.aload_n 0, 1) := by decide +kernel
theorem dX10_missing_1 : decode cX10_missing 1 = .ok (.iconst 0, 1) := by decide +kernel
theorem dX10_missing_2 : decode cX10_missing 2 = .ok (.putfield 91, 3) := by decide +kernel
theorem dX10_missing_5 : decode cX10_missing 5 = .ok (.iconst 0, 1) := by decide +kernel
theorem dX10_missing_6 : decode cX10_missing 6 = .ok (.istore_n 2, 1) := by decide +kernel
theorem dX10_missing_7 : decode cX10_missing 7 = .ok (.iconst 0, 1) := by decide +kernel
theorem dX10_missing_8 : decode cX10_missing 8 = .ok (.istore_n 3, 1) := by decide +kernel
theorem dX10_missing_9 : decode cX10_missing 9 = .ok (.iload_n 3, 1) := by decide +kernel
theorem dX10_missing_10 : decode cX10_missing 10 = .ok (.bipush 10, 2) := by decide +kernel
theorem dX10_missing_12 : decode cX10_missing 12 = .ok (.if_icmp .ge 150, 3) := by decide +kernel
theorem dX10_missing_15 : decode cX10_missing 15 = .ok (.iconst 0, 1) := by decide +kernel
theorem dX10_missing_16 : decode cX10_missing 16 = .ok (.istore 4, 2) := by decide +kernel
theorem dX10_missing_18 : decode cX10_missing 18 = .ok (.iload 4, 2) := by decide +kernel
theorem dX10_missing_20 : decode cX10_missing 20 = .ok (.bipush 12, 2) := by decide +kernel
theorem dX10_missing_22 : decode cX10_missing 22 = .ok (.if_icmp .ge 134, 3) := by decide +kernel
theorem dX10_missing_25 : decode cX10_missing 25 = .ok (.iconst 0, 1) := by decide +kernel
theorem dX10_missing_26 : decode cX10_missing 26 = .ok (.istore 5, 2) := by decide +kernel
theorem dX10_missing_28 : decode cX10_missing 28 = .ok (.iconst 0, 1) := by decide +kernel
theorem dX10_missing_29 : decode cX10_missing 29 = .ok (.istore 6, 2) := by decide +kernel
theorem dX10_missing_31 : decode cX10_missing 31 = .ok (.iconst 0, 1) := by decide +kernel
theorem dX10_missing_32 : decode cX10_missing 32 = .ok (.istore 7, 2) := by decide +kernel
theorem dX10_missing_34 : decode cX10_missing 34 = .ok (.iload 7, 2) := by decide +kernel
theorem dX10_missing_36 : decode cX10_missing 36 = .ok (.bipush 12, 2) := by decide +kernel
theorem dX10_missing_38 : decode cX10_missing 38 = .ok (.if_icmp .ge 75, 3) := by decide +kernel
theorem dX10_missing_41 : decode cX10_missing 41 = .ok (.aload_n 0, 1) := by decide +kernel
theorem dX10_missing_42 : decode cX10_missing 42 = .ok (.iload_n 3, 1) := by decide +kernel
theorem dX10_missing_43 : decode cX10_missing 43 = .ok (.iload 7, 2) := by decide +kernel
theorem dX10_missing_45 : decode cX10_missing 45 = .ok (.invokevirtual 184, 3) := by decide +kernel
theorem dX10_missing_48 : decode cX10_missing 48 = .ok (.iconst (-1), 1) := by decide +kernel
theorem dX10_missing_49 : decode cX10_missing 49 = .ok (.if_icmp .eq 7, 3) := by decide +kernel
theorem dX10_missing_52 : decode cX10_missing 52 = .ok (.iconst 1, 1) := by decide +kernel
theorem dX10_missing_53 : decode cX10_missing 53 = .ok (.goto 4, 3) := by decide +kernel
theorem dX10_missing_56 : decode cX10_missing 56 = .ok (.iconst 0, 1) := by decide +kernel
theorem dX10_missing_57 : decode cX10_missing 57 = .ok (.istore 8, 2) := by decide +kernel
theorem dX10_missing_59 : decode cX10_missing 59 = .ok (.iload 5, 2) := by decide +kernel
theorem dX10_missing_61 : decode cX10_missing 61 = .ok (.ifCond .ne 15, 3) := by decide +kernel
theorem dX10_missing_64 : decode cX10_missing 64 = .ok (.iload 7, 2) := by decide +kernel
theorem dX10_missing_66 : decode cX10_missing 66 = .ok (.iload 4, 2) := by decide +kernel
theorem dX10_missing_68 : decode cX10_missing 68 = .ok (.if_icmp .ge 12, 3) := by decide +kernel
theorem dX10_missing_71 : decode cX10_missing 71 = .ok (.iload 8, 2) := by decide +kernel
theorem dX10_missing_73 : decode cX10_missing 73 = .ok (.ifCond .eq 7, 3) := by decide +kernel
theorem dX10_missing_76 : decode cX10_missing 76 = .ok (.iconst 1, 1) := by decide +kernel
theorem dX10_missing_77 : decode cX10_missing 77 = .ok (.goto 4, 3) := by decide +kernel
theorem dX10_missing_80 : decode cX10_missing 80 = .ok (.iconst 0, 1) := by decide +kernel
theorem dX10_missing_81 : decode cX10_missing 81 = .ok (.istore 5, 2) := by decide +kernel
theorem dX10_missing_83 : decode cX10_missing 83 = .ok (.iload 6, 2) := by decide +kernel
theorem dX10_missing_85 : decode cX10_missing 85 = .ok (.ifCond .ne 15, 3) := by decide +kernel
theorem dX10_missing_88 : decode cX10_missing 88 = .ok (.iload 7, 2) := by decide +kernel
theorem dX10_missing_90 : decode cX10_missing 90 = .ok (.iload 4, 2) := by decide +kernel
theorem dX10_missing_92 : decode cX10_missing 92 = .ok (.if_icmp .le 12, 3) := by decide +kernel
theorem dX10_missing_95 : decode cX10_missing 95 = .ok (.iload 8, 2) := by decide +kernel
theorem dX10_missing_97 : decode cX10_missing 97 = .ok (.ifCond .eq 7, 3) := by decide +kernel
theorem dX10_missing_100 : decode cX10_missing 100 = .ok (.iconst 1, 1) := by decide +kernel
theorem dX10_missing_101 : decode cX10_missing 101 = .ok (.goto 4, 3) := by decide +kernel
theorem dX10_missing_104 : decode cX10_missing 104 = .ok (.iconst 0, 1) := by decide +kernel
theorem dX10_missing_105 : decode cX10_missing 105 = .ok (.istore 6, 2) := by decide +kernel
theorem dX10_missing_107 : decode cX10_missing 107 = .ok (.iinc 7 1, 3) := by decide +kernel
theorem dX10_missing_110 : decode cX10_missing 110 = .ok (.goto (-76), 3) := by decide +kernel
theorem dX10_missing_113 : decode cX10_missing 113 = .ok (.iload 5, 2) := by decide +kernel
theorem dX10_missing_115 : decode cX10_missing 115 = .ok (.ifCond .eq 35, 3) := by decide +kernel
theorem dX10_missing_118 : decode cX10_missing 118 = .ok (.iload 6, 2) := by decide +kernel
theorem dX10_missing_120 : decode cX10_missing 120 = .ok (.ifCond .eq 30, 3) := by decide +kernel
theorem dX10_missing_123 : decode cX10_missing 123 = .ok (.aload_n 0, 1) := by decide +kernel
theorem dX10_missing_124 : decode cX10_missing 124 = .ok (.iload_n 3, 1) := by decide +kernel
theorem dX10_missing_125 : decode cX10_missing 125 = .ok (.iload 4, 2) := by decide +kernel
theorem dX10_missing_127 : decode cX10_missing 127 = .ok (.invokevirtual 184, 3) := by decide +kernel
theorem dX10_missing_130 : decode cX10_missing 130 = .ok (.iconst (-1), 1) := by decide +kernel
theorem dX10_missing_131 : decode cX10_missing 131 = .ok (.if_icmp .ne 19, 3) := by decide +kernel
theorem dX10_missing_134 : decode cX10_missing 134 = .ok (.iload_n 2, 1) := by decide +kernel
theorem dX10_missing_135 : decode cX10_missing 135 = .ok (.iload_n 1, 1) := by decide +kernel
theorem dX10_missing_136 : decode cX10_missing 136 = .ok (.if_icmp .ne 11, 3) := by decide +kernel
theorem dX10_missing_139 : decode cX10_missing 139 = .ok (.bipush 16, 2) := by decide +kernel
theorem dX10_missing_141 : decode cX10_missing 141 = .ok (.iload_n 3, 1) := by decide +kernel
theorem dX10_missing_142 : decode cX10_missing 142 = .ok (.imul, 1) := by decide +kernel
theorem dX10_missing_143 : decode cX10_missing 143 = .ok (.iload 4, 2) := by decide +kernel
theorem dX10_missing_145 : decode cX10_missing 145 = .ok (.iadd, 1) := by decide +kernel
theorem dX10_missing_146 : decode cX10_missing 146 = .ok (.ireturn, 1) := by decide +kernel
theorem dX10_missing_147 : decode cX10_missing 147 = .ok (.iinc 2 1, 3) := by decide +kernel
theorem dX10_missing_150 : decode cX10_missing 150 = .ok (.iinc 4 1, 3) := by decide +kernel
theorem dX10_missing_153 : decode cX10_missing 153 = .ok (.goto (-135), 3) := by decide +kernel
theorem dX10_missing_156 : decode cX10_missing 156 = .ok (.iinc 3 1, 3) := by decide +kernel
theorem dX10_missing_159 : decode cX10_missing 159 = .ok (.goto (-150), 3) := by decide +kernel
theorem dX10_missing_162 : decode cX10_missing 162 = .ok (.iconst (-1), 1) := by decide +kernel
theorem dX10_missing_163 : decode cX10_missing 163 = .ok (.ireturn, 1) := by decide +kernel
theorem dX10_countAll_0 : decode cX10_countAll 0 = .ok (.iconst 0, 1) := by decide +kernel
theorem dX10_countAll_1 : decode cX10_countAll 1 = .ok (.istore_n 1, 1) := by decide +kernel
theorem dX10_countAll_2 : decode cX10_countAll 2 = .ok (.iload_n 1, 1) := by decide +kernel
theorem dX10_countAll_3 : decode cX10_countAll 3 = .ok (.bipush 36, 2) := by decide +kernel
theorem dX10_countAll_5 : decode cX10_countAll 5 = .ok (.if_icmp .ge 16, 3) := by decide +kernel
theorem dX10_countAll_8 : decode cX10_countAll 8 = .ok (.aload_n 0, 1) := by decide +kernel
theorem dX10_countAll_9 : decode cX10_countAll 9 = .ok (.getfield 31, 3) := by decide +kernel
theorem dX10_countAll_12 : decode cX10_countAll 12 = .ok (.iload_n 1, 1) := by decide +kernel
theorem dX10_countAll_13 : decode cX10_countAll 13 = .ok (.iconst 0, 1) := by decide +kernel
theorem dX10_countAll_14 : decode cX10_countAll 14 = .ok (.iastore, 1) := by decide +kernel
theorem dX10_countAll_15 : decode cX10_countAll 15 = .ok (.iinc 1 1, 3) := by decide +kernel
theorem dX10_countAll_18 : decode cX10_countAll 18 = .ok (.goto (-16), 3) := by decide +kernel
theorem dX10_countAll_21 : decode cX10_countAll 21 = .ok (.iconst 0, 1) := by decide +kernel
theorem dX10_countAll_22 : decode cX10_countAll 22 = .ok (.istore_n 1, 1) := by decide +kernel
theorem dX10_countAll_23 : decode cX10_countAll 23 = .ok (.iload_n 1, 1) := by decide +kernel
theorem dX10_countAll_24 : decode cX10_countAll 24 = .ok (.bipush 10, 2) := by decide +kernel
theorem dX10_countAll_26 : decode cX10_countAll 26 = .ok (.if_icmp .ge 69, 3) := by decide +kernel
theorem dX10_countAll_29 : decode cX10_countAll 29 = .ok (.iconst 0, 1) := by decide +kernel
theorem dX10_countAll_30 : decode cX10_countAll 30 = .ok (.istore_n 2, 1) := by decide +kernel
theorem dX10_countAll_31 : decode cX10_countAll 31 = .ok (.iload_n 2, 1) := by decide +kernel
theorem dX10_countAll_32 : decode cX10_countAll 32 = .ok (.iconst 1, 1) := by decide +kernel
theorem dX10_countAll_33 : decode cX10_countAll 33 = .ok (.iadd, 1) := by decide +kernel
theorem dX10_countAll_34 : decode cX10_countAll 34 = .ok (.bipush 12, 2) := by decide +kernel
theorem dX10_countAll_36 : decode cX10_countAll 36 = .ok (.if_icmp .ge 53, 3) := by decide +kernel
theorem dX10_countAll_39 : decode cX10_countAll 39 = .ok (.aload_n 0, 1) := by decide +kernel
theorem dX10_countAll_40 : decode cX10_countAll 40 = .ok (.iload_n 1, 1) := by decide +kernel
theorem dX10_countAll_41 : decode cX10_countAll 41 = .ok (.iload_n 2, 1) := by decide +kernel
theorem dX10_countAll_42 : decode cX10_countAll 42 = .ok (.invokevirtual 184, 3) := by decide +kernel
theorem dX10_countAll_45 : decode cX10_countAll 45 = .ok (.istore_n 3, 1) := by decide +kernel
theorem dX10_countAll_46 : decode cX10_countAll 46 = .ok (.aload_n 0, 1) := by decide +kernel
theorem dX10_countAll_47 : decode cX10_countAll 47 = .ok (.iload_n 1, 1) := by decide +kernel
theorem dX10_countAll_48 : decode cX10_countAll 48 = .ok (.iload_n 2, 1) := by decide +kernel
theorem dX10_countAll_49 : decode cX10_countAll 49 = .ok (.iconst 1, 1) := by decide +kernel
theorem dX10_countAll_50 : decode cX10_countAll 50 = .ok (.iadd, 1) := by decide +kernel
theorem dX10_countAll_51 : decode cX10_countAll 51 = .ok (.invokevirtual 184, 3) := by decide +kernel
theorem dX10_countAll_54 : decode cX10_countAll 54 = .ok (.istore 4, 2) := by decide +kernel
theorem dX10_countAll_56 : decode cX10_countAll 56 = .ok (.iload_n 3, 1) := by decide +kernel
theorem dX10_countAll_57 : decode cX10_countAll 57 = .ok (.iconst (-1), 1) := by decide +kernel
theorem dX10_countAll_58 : decode cX10_countAll 58 = .ok (.if_icmp .eq 25, 3) := by decide +kernel
theorem dX10_countAll_61 : decode cX10_countAll 61 = .ok (.iload 4, 2) := by decide +kernel
theorem dX10_countAll_63 : decode cX10_countAll 63 = .ok (.iconst (-1), 1) := by decide +kernel
theorem dX10_countAll_64 : decode cX10_countAll 64 = .ok (.if_icmp .eq 19, 3) := by decide +kernel
theorem dX10_countAll_67 : decode cX10_countAll 67 = .ok (.aload_n 0, 1) := by decide +kernel
theorem dX10_countAll_68 : decode cX10_countAll 68 = .ok (.getfield 31, 3) := by decide +kernel
theorem dX10_countAll_71 : decode cX10_countAll 71 = .ok (.bipush 6, 2) := by decide +kernel
theorem dX10_countAll_73 : decode cX10_countAll 73 = .ok (.iload_n 3, 1) := by decide +kernel
theorem dX10_countAll_74 : decode cX10_countAll 74 = .ok (.imul, 1) := by decide +kernel
theorem dX10_countAll_75 : decode cX10_countAll 75 = .ok (.iload 4, 2) := by decide +kernel
theorem dX10_countAll_77 : decode cX10_countAll 77 = .ok (.iadd, 1) := by decide +kernel
theorem dX10_countAll_78 : decode cX10_countAll 78 = .ok (.dup2, 1) := by decide +kernel
theorem dX10_countAll_79 : decode cX10_countAll 79 = .ok (.iaload, 1) := by decide +kernel
theorem dX10_countAll_80 : decode cX10_countAll 80 = .ok (.iconst 1, 1) := by decide +kernel
theorem dX10_countAll_81 : decode cX10_countAll 81 = .ok (.iadd, 1) := by decide +kernel
theorem dX10_countAll_82 : decode cX10_countAll 82 = .ok (.iastore, 1) := by decide +kernel
theorem dX10_countAll_83 : decode cX10_countAll 83 = .ok (.iinc 2 1, 3) := by decide +kernel
theorem dX10_countAll_86 : decode cX10_countAll 86 = .ok (.goto (-55), 3) := by decide +kernel
theorem dX10_countAll_89 : decode cX10_countAll 89 = .ok (.iinc 1 1, 3) := by decide +kernel
theorem dX10_countAll_92 : decode cX10_countAll 92 = .ok (.goto (-69), 3) := by decide +kernel
theorem dX10_countAll_95 : decode cX10_countAll 95 = .ok (.iconst 0, 1) := by decide +kernel
theorem dX10_countAll_96 : decode cX10_countAll 96 = .ok (.istore_n 1, 1) := by decide +kernel
theorem dX10_countAll_97 : decode cX10_countAll 97 = .ok (.iconst 0, 1) := by decide +kernel
theorem dX10_countAll_98 : decode cX10_countAll 98 = .ok (.istore_n 2, 1) := by decide +kernel
theorem dX10_countAll_99 : decode cX10_countAll 99 = .ok (.iconst 0, 1) := by decide +kernel
theorem dX10_countAll_100 : decode cX10_countAll 100 = .ok (.istore_n 3, 1) := by decide +kernel
theorem dX10_countAll_101 : decode cX10_countAll 101 = .ok (.iconst 0, 1) := by decide +kernel
theorem dX10_countAll_102 : decode cX10_countAll 102 = .ok (.istore 4, 2) := by decide +kernel
theorem dX10_countAll_104 : decode cX10_countAll 104 = .ok (.iload 4, 2) := by decide +kernel
theorem dX10_countAll_106 : decode cX10_countAll 106 = .ok (.aload_n 0, 1) := by decide +kernel
theorem dX10_countAll_107 : decode cX10_countAll 107 = .ok (.getfield 75, 3) := by decide +kernel
theorem dX10_countAll_110 : decode cX10_countAll 110 = .ok (.if_icmp .ge 43, 3) := by decide +kernel
theorem dX10_countAll_113 : decode cX10_countAll 113 = .ok (.aload_n 0, 1) := by decide +kernel
theorem dX10_countAll_114 : decode cX10_countAll 114 = .ok (.getfield 34, 3) := by decide +kernel
theorem dX10_countAll_117 : decode cX10_countAll 117 = .ok (.iload 4, 2) := by decide +kernel
theorem dX10_countAll_119 : decode cX10_countAll 119 = .ok (.iload_n 1, 1) := by decide +kernel
theorem dX10_countAll_120 : decode cX10_countAll 120 = .ok (.iastore, 1) := by decide +kernel
theorem dX10_countAll_121 : decode cX10_countAll 121 = .ok (.iload_n 3, 1) := by decide +kernel
theorem dX10_countAll_122 : decode cX10_countAll 122 = .ok (.aload_n 0, 1) := by decide +kernel
theorem dX10_countAll_123 : decode cX10_countAll 123 = .ok (.iload 4, 2) := by decide +kernel
theorem dX10_countAll_125 : decode cX10_countAll 125 = .ok (.invokevirtual 187, 3) := by decide +kernel
theorem dX10_countAll_128 : decode cX10_countAll 128 = .ok (.iadd, 1) := by decide +kernel
theorem dX10_countAll_129 : decode cX10_countAll 129 = .ok (.istore_n 3, 1) := by decide +kernel
theorem dX10_countAll_130 : decode cX10_countAll 130 = .ok (.iload_n 3, 1) := by decide +kernel
theorem dX10_countAll_131 : decode cX10_countAll 131 = .ok (.aload_n 0, 1) := by decide +kernel
theorem dX10_countAll_132 : decode cX10_countAll 132 = .ok (.getfield 191, 3) := by decide +kernel
theorem dX10_countAll_135 : decode cX10_countAll 135 = .ok (.if_icmp .lt 12, 3) := by decide +kernel
theorem dX10_countAll_138 : decode cX10_countAll 138 = .ok (.iload_n 1, 1) := by decide +kernel
theorem dX10_countAll_139 : decode cX10_countAll 139 = .ok (.istore_n 2, 1) := by decide +kernel
theorem dX10_countAll_140 : decode cX10_countAll 140 = .ok (.iload 4, 2) := by decide +kernel
theorem dX10_countAll_142 : decode cX10_countAll 142 = .ok (.iconst 1, 1) := by decide +kernel
theorem dX10_countAll_143 : decode cX10_countAll 143 = .ok (.iadd, 1) := by decide +kernel
theorem dX10_countAll_144 : decode cX10_countAll 144 = .ok (.istore_n 1, 1) := by decide +kernel
theorem dX10_countAll_145 : decode cX10_countAll 145 = .ok (.iconst 0, 1) := by decide +kernel
theorem dX10_countAll_146 : decode cX10_countAll 146 = .ok (.istore_n 3, 1) := by decide +kernel
theorem dX10_countAll_147 : decode cX10_countAll 147 = .ok (.iinc 4 1, 3) := by decide +kernel
theorem dX10_countAll_150 : decode cX10_countAll 150 = .ok (.goto (-46), 3) := by decide +kernel
theorem dX10_countAll_153 : decode cX10_countAll 153 = .ok (.iconst 0, 1) := by decide +kernel
theorem dX10_countAll_154 : decode cX10_countAll 154 = .ok (.istore 4, 2) := by decide +kernel
theorem dX10_countAll_156 : decode cX10_countAll 156 = .ok (.iload 4, 2) := by decide +kernel
theorem dX10_countAll_158 : decode cX10_countAll 158 = .ok (.aload_n 0, 1) := by decide +kernel
theorem dX10_countAll_159 : decode cX10_countAll 159 = .ok (.getfield 75, 3) := by decide +kernel
theorem dX10_countAll_162 : decode cX10_countAll 162 = .ok (.if_icmp .ge 46, 3) := by decide +kernel
theorem dX10_countAll_165 : decode cX10_countAll 165 = .ok (.aload_n 0, 1) := by decide +kernel
theorem dX10_countAll_166 : decode cX10_countAll 166 = .ok (.getfield 34, 3) := by decide +kernel
theorem dX10_countAll_169 : decode cX10_countAll 169 = .ok (.iload 4, 2) := by decide +kernel
theorem dX10_countAll_171 : decode cX10_countAll 171 = .ok (.iload_n 1, 1) := by decide +kernel
theorem dX10_countAll_172 : decode cX10_countAll 172 = .ok (.aload_n 0, 1) := by decide +kernel
theorem dX10_countAll_173 : decode cX10_countAll 173 = .ok (.getfield 75, 3) := by decide +kernel
theorem dX10_countAll_176 : decode cX10_countAll 176 = .ok (.if_icmp .ge 18, 3) := by decide +kernel
theorem dX10_countAll_179 : decode cX10_countAll 179 = .ok (.aload_n 0, 1) := by decide +kernel
theorem dX10_countAll_180 : decode cX10_countAll 180 = .ok (.getfield 34, 3) := by decide +kernel
theorem dX10_countAll_183 : decode cX10_countAll 183 = .ok (.iload 4, 2) := by decide +kernel
theorem dX10_countAll_185 : decode cX10_countAll 185 = .ok (.iaload, 1) := by decide +kernel
theorem dX10_countAll_186 : decode cX10_countAll 186 = .ok (.iload_n 1, 1) := by decide +kernel
theorem dX10_countAll_187 : decode cX10_countAll 187 = .ok (.if_icmp .ne 7, 3) := by decide +kernel
theorem dX10_countAll_190 : decode cX10_countAll 190 = .ok (.iload_n 2, 1) := by decide +kernel
theorem dX10_countAll_191 : decode cX10_countAll 191 = .ok (.goto 10, 3) := by decide +kernel
theorem dX10_countAll_194 : decode cX10_countAll 194 = .ok (.aload_n 0, 1) := by decide +kernel
theorem dX10_countAll_195 : decode cX10_countAll 195 = .ok (.getfield 34, 3) := by decide +kernel
theorem dX10_countAll_198 : decode cX10_countAll 198 = .ok (.iload 4, 2) := by decide +kernel
theorem dX10_countAll_200 : decode cX10_countAll 200 = .ok (.iaload, 1) := by decide +kernel
theorem dX10_countAll_201 : decode cX10_countAll 201 = .ok (.iastore, 1) := by decide +kernel
theorem dX10_countAll_202 : decode cX10_countAll 202 = .ok (.iinc 4 1, 3) := by decide +kernel
theorem dX10_countAll_205 : decode cX10_countAll 205 = .ok (.goto (-49), 3) := by decide +kernel
theorem dX10_countAll_208 : decode cX10_countAll 208 = .ok (.return_, 1) := by decide +kernel
theorem dX10_movesFrom_0 : decode cX10_movesFrom 0 = .ok (.iconst 0, 1) := by decide +kernel
theorem dX10_movesFrom_1 : decode cX10_movesFrom 1 = .ok (.istore_n 2, 1) := by decide +kernel
theorem dX10_movesFrom_2 : decode cX10_movesFrom 2 = .ok (.iconst 0, 1) := by decide +kernel
theorem dX10_movesFrom_3 : decode cX10_movesFrom 3 = .ok (.istore_n 3, 1) := by decide +kernel
theorem dX10_movesFrom_4 : decode cX10_movesFrom 4 = .ok (.iload_n 3, 1) := by decide +kernel
theorem dX10_movesFrom_5 : decode cX10_movesFrom 5 = .ok (.aload_n 0, 1) := by decide +kernel
theorem dX10_movesFrom_6 : decode cX10_movesFrom 6 = .ok (.getfield 75, 3) := by decide +kernel
theorem dX10_movesFrom_9 : decode cX10_movesFrom 9 = .ok (.if_icmp .ge 23, 3) := by decide +kernel
theorem dX10_movesFrom_12 : decode cX10_movesFrom 12 = .ok (.iload_n 2, 1) := by decide +kernel
theorem dX10_movesFrom_13 : decode cX10_movesFrom 13 = .ok (.aload_n 0, 1) := by decide +kernel
theorem dX10_movesFrom_14 : decode cX10_movesFrom 14 = .ok (.getfield 31, 3) := by decide +kernel
theorem dX10_movesFrom_17 : decode cX10_movesFrom 17 = .ok (.bipush 6, 2) := by decide +kernel
theorem dX10_movesFrom_19 : decode cX10_movesFrom 19 = .ok (.iload_n 1, 1) := by decide +kernel
theorem dX10_movesFrom_20 : decode cX10_movesFrom 20 = .ok (.imul, 1) := by decide +kernel
theorem dX10_movesFrom_21 : decode cX10_movesFrom 21 = .ok (.iload_n 3, 1) := by decide +kernel
theorem dX10_movesFrom_22 : decode cX10_movesFrom 22 = .ok (.iadd, 1) := by decide +kernel
theorem dX10_movesFrom_23 : decode cX10_movesFrom 23 = .ok (.iaload, 1) := by decide +kernel
theorem dX10_movesFrom_24 : decode cX10_movesFrom 24 = .ok (.iadd, 1) := by decide +kernel
theorem dX10_movesFrom_25 : decode cX10_movesFrom 25 = .ok (.istore_n 2, 1) := by decide +kernel
theorem dX10_movesFrom_26 : decode cX10_movesFrom 26 = .ok (.iinc 3 1, 3) := by decide +kernel
theorem dX10_movesFrom_29 : decode cX10_movesFrom 29 = .ok (.goto (-25), 3) := by decide +kernel
theorem dX10_movesFrom_32 : decode cX10_movesFrom 32 = .ok (.iload_n 2, 1) := by decide +kernel
theorem dX10_movesFrom_33 : decode cX10_movesFrom 33 = .ok (.ireturn, 1) := by decide +kernel
theorem dX10_count_0 : decode cX10_count 0 = .ok (.aload_n 0, 1) := by decide +kernel
theorem dX10_count_1 : decode cX10_count 1 = .ok (.aload_n 0, 1) := by decide +kernel
theorem dX10_count_2 : decode cX10_count 2 = .ok (.iload_n 1, 1) := by decide +kernel
theorem dX10_count_3 : decode cX10_count 3 = .ok (.invokevirtual 108, 3) := by decide +kernel
theorem dX10_count_6 : decode cX10_count 6 = .ok (.ifCond .eq 15, 3) := by decide +kernel
theorem dX10_count_9 : decode cX10_count 9 = .ok (.aload_n 0, 1) := by decide +kernel
theorem dX10_count_10 : decode cX10_count 10 = .ok (.iload_n 2, 1) := by decide +kernel
theorem dX10_count_11 : decode cX10_count 11 = .ok (.invokevirtual 108, 3) := by decide +kernel
theorem dX10_count_14 : decode cX10_count 14 = .ok (.ifCond .eq 7, 3) := by decide +kernel
theorem dX10_count_17 : decode cX10_count 17 = .ok (.iconst 0, 1) := by decide +kernel
theorem dX10_count_18 : decode cX10_count 18 = .ok (.goto 4, 3) := by decide +kernel
theorem dX10_count_21 : decode cX10_count 21 = .ok (.iconst 1, 1) := by decide +kernel
theorem dX10_count_22 : decode cX10_count 22 = .ok (.putfield 91, 3) := by decide +kernel
theorem dX10_count_25 : decode cX10_count 25 = .ok (.aload_n 0, 1) := by decide +kernel
theorem dX10_count_26 : decode cX10_count 26 = .ok (.getfield 91, 3) := by decide +kernel
theorem dX10_count_29 : decode cX10_count 29 = .ok (.ifCond .le 5, 3) := by decide +kernel
theorem dX10_count_32 : decode cX10_count 32 = .ok (.iconst 0, 1) := by decide +kernel
theorem dX10_count_33 : decode cX10_count 33 = .ok (.ireturn, 1) := by decide +kernel
theorem dX10_count_34 : decode cX10_count 34 = .ok (.aload_n 0, 1) := by decide +kernel
theorem dX10_count_35 : decode cX10_count 35 = .ok (.invokevirtual 194, 3) := by decide +kernel
theorem dX10_count_38 : decode cX10_count 38 = .ok (.aload_n 0, 1) := by decide +kernel
theorem dX10_count_39 : decode cX10_count 39 = .ok (.getfield 31, 3) := by decide +kernel
theorem dX10_count_42 : decode cX10_count 42 = .ok (.bipush 6, 2) := by decide +kernel
theorem dX10_count_44 : decode cX10_count 44 = .ok (.iload_n 1, 1) := by decide +kernel
theorem dX10_count_45 : decode cX10_count 45 = .ok (.imul, 1) := by decide +kernel
theorem dX10_count_46 : decode cX10_count 46 = .ok (.iload_n 2, 1) := by decide +kernel
theorem dX10_count_47 : decode cX10_count 47 = .ok (.iadd, 1) := by decide +kernel
theorem dX10_count_48 : decode cX10_count 48 = .ok (.iaload, 1) := by decide +kernel
theorem dX10_count_49 : decode cX10_count 49 = .ok (.ireturn, 1) := by decide +kernel
theorem dX10_least_0 : decode cX10_least 0 = .ok (.aload_n 0, 1) := by decide +kernel
theorem dX10_least_1 : decode cX10_least 1 = .ok (.iconst 0, 1) := by decide +kernel
theorem dX10_least_2 : decode cX10_least 2 = .ok (.putfield 91, 3) := by decide +kernel
theorem dX10_least_5 : decode cX10_least 5 = .ok (.iload_n 1, 1) := by decide +kernel
theorem dX10_least_6 : decode cX10_least 6 = .ok (.i2l, 1) := by decide +kernel
theorem dX10_least_7 : decode cX10_least 7 = .ok (.lconst 0, 1) := by decide +kernel
theorem dX10_least_8 : decode cX10_least 8 = .ok (.ldc2_w 197, 3) := by decide +kernel
theorem dX10_least_11 : decode cX10_least 11 = .ok (.invokestatic 94, 3) := by decide +kernel
theorem dX10_least_14 : decode cX10_least 14 = .ok (.ifCond .ne 5, 3) := by decide +kernel
theorem dX10_least_17 : decode cX10_least 17 = .ok (.iconst 0, 1) := by decide +kernel
theorem dX10_least_18 : decode cX10_least 18 = .ok (.ireturn, 1) := by decide +kernel
theorem dX10_least_19 : decode cX10_least 19 = .ok (.aload_n 0, 1) := by decide +kernel
theorem dX10_least_20 : decode cX10_least 20 = .ok (.iload_n 1, 1) := by decide +kernel
theorem dX10_least_21 : decode cX10_least 21 = .ok (.putfield 191, 3) := by decide +kernel
theorem dX10_least_24 : decode cX10_least 24 = .ok (.aload_n 0, 1) := by decide +kernel
theorem dX10_least_25 : decode cX10_least 25 = .ok (.iconst 0, 1) := by decide +kernel
theorem dX10_least_26 : decode cX10_least 26 = .ok (.putfield 116, 3) := by decide +kernel
theorem dX10_least_29 : decode cX10_least 29 = .ok (.iconst 1, 1) := by decide +kernel
theorem dX10_least_30 : decode cX10_least 30 = .ok (.ireturn, 1) := by decide +kernel
theorem dX10_shifted_0 : decode cX10_shifted 0 = .ok (.iconst 0, 1) := by decide +kernel
theorem dX10_shifted_1 : decode cX10_shifted 1 = .ok (.istore_n 3, 1) := by decide +kernel
theorem dX10_shifted_2 : decode cX10_shifted 2 = .ok (.iconst 0, 1) := by decide +kernel
theorem dX10_shifted_3 : decode cX10_shifted 3 = .ok (.istore 4, 2) := by decide +kernel
theorem dX10_shifted_5 : decode cX10_shifted 5 = .ok (.iload 4, 2) := by decide +kernel
theorem dX10_shifted_7 : decode cX10_shifted 7 = .ok (.aload_n 0, 1) := by decide +kernel
theorem dX10_shifted_8 : decode cX10_shifted 8 = .ok (.getfield 75, 3) := by decide +kernel
theorem dX10_shifted_11 : decode cX10_shifted 11 = .ok (.if_icmp .ge 58, 3) := by decide +kernel
theorem dX10_shifted_14 : decode cX10_shifted 14 = .ok (.iload_n 3, 1) := by decide +kernel
theorem dX10_shifted_15 : decode cX10_shifted 15 = .ok (.aload_n 0, 1) := by decide +kernel
theorem dX10_shifted_16 : decode cX10_shifted 16 = .ok (.getfield 34, 3) := by decide +kernel
theorem dX10_shifted_19 : decode cX10_shifted 19 = .ok (.iload 4, 2) := by decide +kernel
theorem dX10_shifted_21 : decode cX10_shifted 21 = .ok (.iaload, 1) := by decide +kernel
theorem dX10_shifted_22 : decode cX10_shifted 22 = .ok (.aload_n 0, 1) := by decide +kernel
theorem dX10_shifted_23 : decode cX10_shifted 23 = .ok (.getfield 34, 3) := by decide +kernel
theorem dX10_shifted_26 : decode cX10_shifted 26 = .ok (.iload_n 1, 1) := by decide +kernel
theorem dX10_shifted_27 : decode cX10_shifted 27 = .ok (.iaload, 1) := by decide +kernel
theorem dX10_shifted_28 : decode cX10_shifted 28 = .ok (.if_icmp .ne 32, 3) := by decide +kernel
theorem dX10_shifted_31 : decode cX10_shifted 31 = .ok (.aload_n 0, 1) := by decide +kernel
theorem dX10_shifted_32 : decode cX10_shifted 32 = .ok (.iload 4, 2) := by decide +kernel
theorem dX10_shifted_34 : decode cX10_shifted 34 = .ok (.iload_n 2, 1) := by decide +kernel
theorem dX10_shifted_35 : decode cX10_shifted 35 = .ok (.iadd, 1) := by decide +kernel
theorem dX10_shifted_36 : decode cX10_shifted 36 = .ok (.invokevirtual 108, 3) := by decide +kernel
theorem dX10_shifted_39 : decode cX10_shifted 39 = .ok (.ifCond .eq 21, 3) := by decide +kernel
theorem dX10_shifted_42 : decode cX10_shifted 42 = .ok (.aload_n 0, 1) := by decide +kernel
theorem dX10_shifted_43 : decode cX10_shifted 43 = .ok (.getfield 31, 3) := by decide +kernel
theorem dX10_shifted_46 : decode cX10_shifted 46 = .ok (.bipush 6, 2) := by decide +kernel
theorem dX10_shifted_48 : decode cX10_shifted 48 = .ok (.iload 4, 2) := by decide +kernel
theorem dX10_shifted_50 : decode cX10_shifted 50 = .ok (.imul, 1) := by decide +kernel
theorem dX10_shifted_51 : decode cX10_shifted 51 = .ok (.iload 4, 2) := by decide +kernel
theorem dX10_shifted_53 : decode cX10_shifted 53 = .ok (.iadd, 1) := by decide +kernel
theorem dX10_shifted_54 : decode cX10_shifted 54 = .ok (.iload_n 2, 1) := by decide +kernel
theorem dX10_shifted_55 : decode cX10_shifted 55 = .ok (.iadd, 1) := by decide +kernel
theorem dX10_shifted_56 : decode cX10_shifted 56 = .ok (.iaload, 1) := by decide +kernel
theorem dX10_shifted_57 : decode cX10_shifted 57 = .ok (.goto 4, 3) := by decide +kernel
theorem dX10_shifted_60 : decode cX10_shifted 60 = .ok (.iconst 0, 1) := by decide +kernel
theorem dX10_shifted_61 : decode cX10_shifted 61 = .ok (.iadd, 1) := by decide +kernel
theorem dX10_shifted_62 : decode cX10_shifted 62 = .ok (.istore_n 3, 1) := by decide +kernel
theorem dX10_shifted_63 : decode cX10_shifted 63 = .ok (.iinc 4 1, 3) := by decide +kernel
theorem dX10_shifted_66 : decode cX10_shifted 66 = .ok (.goto (-61), 3) := by decide +kernel
theorem dX10_shifted_69 : decode cX10_shifted 69 = .ok (.iload_n 3, 1) := by decide +kernel
theorem dX10_shifted_70 : decode cX10_shifted 70 = .ok (.ireturn, 1) := by decide +kernel
theorem dX10_shareTotal_0 : decode cX10_shareTotal 0 = .ok (.iconst 0, 1) := by decide +kernel
theorem dX10_shareTotal_1 : decode cX10_shareTotal 1 = .ok (.istore_n 2, 1) := by decide +kernel
theorem dX10_shareTotal_2 : decode cX10_shareTotal 2 = .ok (.iconst 0, 1) := by decide +kernel
theorem dX10_shareTotal_3 : decode cX10_shareTotal 3 = .ok (.istore_n 3, 1) := by decide +kernel
theorem dX10_shareTotal_4 : decode cX10_shareTotal 4 = .ok (.iload_n 3, 1) := by decide +kernel
theorem dX10_shareTotal_5 : decode cX10_shareTotal 5 = .ok (.aload_n 0, 1) := by decide +kernel
theorem dX10_shareTotal_6 : decode cX10_shareTotal 6 = .ok (.getfield 75, 3) := by decide +kernel
theorem dX10_shareTotal_9 : decode cX10_shareTotal 9 = .ok (.if_icmp .ge 20, 3) := by decide +kernel
theorem dX10_shareTotal_12 : decode cX10_shareTotal 12 = .ok (.iload_n 2, 1) := by decide +kernel
theorem dX10_shareTotal_13 : decode cX10_shareTotal 13 = .ok (.aload_n 0, 1) := by decide +kernel
theorem dX10_shareTotal_14 : decode cX10_shareTotal 14 = .ok (.iload_n 1, 1) := by decide +kernel
theorem dX10_shareTotal_15 : decode cX10_shareTotal 15 = .ok (.iload_n 3, 1) := by decide +kernel
theorem dX10_shareTotal_16 : decode cX10_shareTotal 16 = .ok (.iload_n 1, 1) := by decide +kernel
theorem dX10_shareTotal_17 : decode cX10_shareTotal 17 = .ok (.isub, 1) := by decide +kernel
theorem dX10_shareTotal_18 : decode cX10_shareTotal 18 = .ok (.invokevirtual 199, 3) := by decide +kernel
theorem dX10_shareTotal_21 : decode cX10_shareTotal 21 = .ok (.iadd, 1) := by decide +kernel
theorem dX10_shareTotal_22 : decode cX10_shareTotal 22 = .ok (.istore_n 2, 1) := by decide +kernel
theorem dX10_shareTotal_23 : decode cX10_shareTotal 23 = .ok (.iinc 3 1, 3) := by decide +kernel
theorem dX10_shareTotal_26 : decode cX10_shareTotal 26 = .ok (.goto (-22), 3) := by decide +kernel
theorem dX10_shareTotal_29 : decode cX10_shareTotal 29 = .ok (.iload_n 2, 1) := by decide +kernel
theorem dX10_shareTotal_30 : decode cX10_shareTotal 30 = .ok (.ireturn, 1) := by decide +kernel
theorem dX10_shareAbove_0 : decode cX10_shareAbove 0 = .ok (.aload_n 0, 1) := by decide +kernel
theorem dX10_shareAbove_1 : decode cX10_shareAbove 1 = .ok (.iload_n 1, 1) := by decide +kernel
theorem dX10_shareAbove_2 : decode cX10_shareAbove 2 = .ok (.invokevirtual 202, 3) := by decide +kernel
theorem dX10_shareAbove_5 : decode cX10_shareAbove 5 = .ok (.ifCond .ne 16, 3) := by decide +kernel
theorem dX10_shareAbove_8 : decode cX10_shareAbove 8 = .ok (.iload_n 1, 1) := by decide +kernel
theorem dX10_shareAbove_9 : decode cX10_shareAbove 9 = .ok (.iload_n 2, 1) := by decide +kernel
theorem dX10_shareAbove_10 : decode cX10_shareAbove 10 = .ok (.if_icmp .ne 7, 3) := by decide +kernel
theorem dX10_shareAbove_13 : decode cX10_shareAbove 13 = .ok (.iconst 1, 1) := by decide +kernel
theorem dX10_shareAbove_14 : decode cX10_shareAbove 14 = .ok (.goto 15, 3) := by decide +kernel
theorem dX10_shareAbove_17 : decode cX10_shareAbove 17 = .ok (.iconst 0, 1) := by decide +kernel
theorem dX10_shareAbove_18 : decode cX10_shareAbove 18 = .ok (.goto 11, 3) := by decide +kernel
theorem dX10_shareAbove_21 : decode cX10_shareAbove 21 = .ok (.aload_n 0, 1) := by decide +kernel
theorem dX10_shareAbove_22 : decode cX10_shareAbove 22 = .ok (.iload_n 1, 1) := by decide +kernel
theorem dX10_shareAbove_23 : decode cX10_shareAbove 23 = .ok (.iload_n 2, 1) := by decide +kernel
theorem dX10_shareAbove_24 : decode cX10_shareAbove 24 = .ok (.iload_n 1, 1) := by decide +kernel
theorem dX10_shareAbove_25 : decode cX10_shareAbove 25 = .ok (.isub, 1) := by decide +kernel
theorem dX10_shareAbove_26 : decode cX10_shareAbove 26 = .ok (.invokevirtual 199, 3) := by decide +kernel
theorem dX10_shareAbove_29 : decode cX10_shareAbove 29 = .ok (.ireturn, 1) := by decide +kernel
theorem dX10_shareBelow_0 : decode cX10_shareBelow 0 = .ok (.aload_n 0, 1) := by decide +kernel
theorem dX10_shareBelow_1 : decode cX10_shareBelow 1 = .ok (.iload_n 1, 1) := by decide +kernel
theorem dX10_shareBelow_2 : decode cX10_shareBelow 2 = .ok (.invokevirtual 202, 3) := by decide +kernel
theorem dX10_shareBelow_5 : decode cX10_shareBelow 5 = .ok (.ifCond .ne 7, 3) := by decide +kernel
theorem dX10_shareBelow_8 : decode cX10_shareBelow 8 = .ok (.iconst 1, 1) := by decide +kernel
theorem dX10_shareBelow_9 : decode cX10_shareBelow 9 = .ok (.goto 8, 3) := by decide +kernel
theorem dX10_shareBelow_12 : decode cX10_shareBelow 12 = .ok (.aload_n 0, 1) := by decide +kernel
theorem dX10_shareBelow_13 : decode cX10_shareBelow 13 = .ok (.iload_n 1, 1) := by decide +kernel
theorem dX10_shareBelow_14 : decode cX10_shareBelow 14 = .ok (.invokevirtual 202, 3) := by decide +kernel
theorem dX10_shareBelow_17 : decode cX10_shareBelow 17 = .ok (.ireturn, 1) := by decide +kernel
theorem dX10_divisor_0 : decode cX10_divisor 0 = .ok (.lload_n 0, 1) := by decide +kernel
theorem dX10_divisor_1 : decode cX10_divisor 1 = .ok (.lconst 0, 1) := by decide +kernel
theorem dX10_divisor_2 : decode cX10_divisor 2 = .ok (.lcmp, 1) := by decide +kernel
theorem dX10_divisor_3 : decode cX10_divisor 3 = .ok (.ifCond .ge 8, 3) := by decide +kernel
theorem dX10_divisor_6 : decode cX10_divisor 6 = .ok (.lload_n 0, 1) := by decide +kernel
theorem dX10_divisor_7 : decode cX10_divisor 7 = .ok (.lneg, 1) := by decide +kernel
theorem dX10_divisor_8 : decode cX10_divisor 8 = .ok (.goto 4, 3) := by decide +kernel
theorem dX10_divisor_11 : decode cX10_divisor 11 = .ok (.lload_n 0, 1) := by decide +kernel
theorem dX10_divisor_12 : decode cX10_divisor 12 = .ok (.lstore 4, 2) := by decide +kernel
theorem dX10_divisor_14 : decode cX10_divisor 14 = .ok (.lload_n 2, 1) := by decide +kernel
theorem dX10_divisor_15 : decode cX10_divisor 15 = .ok (.lconst 0, 1) := by decide +kernel
theorem dX10_divisor_16 : decode cX10_divisor 16 = .ok (.lcmp, 1) := by decide +kernel
theorem dX10_divisor_17 : decode cX10_divisor 17 = .ok (.ifCond .ge 8, 3) := by decide +kernel
theorem dX10_divisor_20 : decode cX10_divisor 20 = .ok (.lload_n 2, 1) := by decide +kernel
theorem dX10_divisor_21 : decode cX10_divisor 21 = .ok (.lneg, 1) := by decide +kernel
theorem dX10_divisor_22 : decode cX10_divisor 22 = .ok (.goto 4, 3) := by decide +kernel
theorem dX10_divisor_25 : decode cX10_divisor 25 = .ok (.lload_n 2, 1) := by decide +kernel
theorem dX10_divisor_26 : decode cX10_divisor 26 = .ok (.lstore 6, 2) := by decide +kernel
theorem dX10_divisor_28 : decode cX10_divisor 28 = .ok (.lload 6, 2) := by decide +kernel
theorem dX10_divisor_30 : decode cX10_divisor 30 = .ok (.lconst 0, 1) := by decide +kernel
theorem dX10_divisor_31 : decode cX10_divisor 31 = .ok (.lcmp, 1) := by decide +kernel
theorem dX10_divisor_32 : decode cX10_divisor 32 = .ok (.ifCond .eq 21, 3) := by decide +kernel
theorem dX10_divisor_35 : decode cX10_divisor 35 = .ok (.lload 4, 2) := by decide +kernel
theorem dX10_divisor_37 : decode cX10_divisor 37 = .ok (.lload 6, 2) := by decide +kernel
theorem dX10_divisor_39 : decode cX10_divisor 39 = .ok (.lrem, 1) := by decide +kernel
theorem dX10_divisor_40 : decode cX10_divisor 40 = .ok (.lstore 8, 2) := by decide +kernel
theorem dX10_divisor_42 : decode cX10_divisor 42 = .ok (.lload 6, 2) := by decide +kernel
theorem dX10_divisor_44 : decode cX10_divisor 44 = .ok (.lstore 4, 2) := by decide +kernel
theorem dX10_divisor_46 : decode cX10_divisor 46 = .ok (.lload 8, 2) := by decide +kernel
theorem dX10_divisor_48 : decode cX10_divisor 48 = .ok (.lstore 6, 2) := by decide +kernel
theorem dX10_divisor_50 : decode cX10_divisor 50 = .ok (.goto (-22), 3) := by decide +kernel
theorem dX10_divisor_53 : decode cX10_divisor 53 = .ok (.lload 4, 2) := by decide +kernel
theorem dX10_divisor_55 : decode cX10_divisor 55 = .ok (.lreturn, 1) := by decide +kernel
theorem dX10_share_0 : decode cX10_share 0 = .ok (.aload_n 0, 1) := by decide +kernel
theorem dX10_share_1 : decode cX10_share 1 = .ok (.aload_n 0, 1) := by decide +kernel
theorem dX10_share_2 : decode cX10_share 2 = .ok (.iload_n 1, 1) := by decide +kernel
theorem dX10_share_3 : decode cX10_share 3 = .ok (.invokevirtual 108, 3) := by decide +kernel
theorem dX10_share_6 : decode cX10_share 6 = .ok (.ifCond .eq 15, 3) := by decide +kernel
theorem dX10_share_9 : decode cX10_share 9 = .ok (.aload_n 0, 1) := by decide +kernel
theorem dX10_share_10 : decode cX10_share 10 = .ok (.iload_n 2, 1) := by decide +kernel
theorem dX10_share_11 : decode cX10_share 11 = .ok (.invokevirtual 108, 3) := by decide +kernel
theorem dX10_share_14 : decode cX10_share 14 = .ok (.ifCond .eq 7, 3) := by decide +kernel
theorem dX10_share_17 : decode cX10_share 17 = .ok (.iconst 0, 1) := by decide +kernel
theorem dX10_share_18 : decode cX10_share 18 = .ok (.goto 4, 3) := by decide +kernel
theorem dX10_share_21 : decode cX10_share 21 = .ok (.iconst 1, 1) := by decide +kernel
theorem dX10_share_22 : decode cX10_share 22 = .ok (.putfield 91, 3) := by decide +kernel
theorem dX10_share_25 : decode cX10_share 25 = .ok (.aload_n 0, 1) := by decide +kernel
theorem dX10_share_26 : decode cX10_share 26 = .ok (.getfield 91, 3) := by decide +kernel
theorem dX10_share_29 : decode cX10_share 29 = .ok (.ifCond .le 5, 3) := by decide +kernel
theorem dX10_share_32 : decode cX10_share 32 = .ok (.lconst 0, 1) := by decide +kernel
theorem dX10_share_33 : decode cX10_share 33 = .ok (.lreturn, 1) := by decide +kernel
theorem dX10_share_34 : decode cX10_share 34 = .ok (.aload_n 0, 1) := by decide +kernel
theorem dX10_share_35 : decode cX10_share 35 = .ok (.invokevirtual 194, 3) := by decide +kernel
theorem dX10_share_38 : decode cX10_share 38 = .ok (.aload_n 0, 1) := by decide +kernel
theorem dX10_share_39 : decode cX10_share 39 = .ok (.iload_n 1, 1) := by decide +kernel
theorem dX10_share_40 : decode cX10_share 40 = .ok (.iload_n 2, 1) := by decide +kernel
theorem dX10_share_41 : decode cX10_share 41 = .ok (.invokevirtual 205, 3) := by decide +kernel
theorem dX10_share_44 : decode cX10_share 44 = .ok (.i2l, 1) := by decide +kernel
theorem dX10_share_45 : decode cX10_share 45 = .ok (.lstore 4, 2) := by decide +kernel
theorem dX10_share_47 : decode cX10_share 47 = .ok (.aload_n 0, 1) := by decide +kernel
theorem dX10_share_48 : decode cX10_share 48 = .ok (.iload_n 1, 1) := by decide +kernel
theorem dX10_share_49 : decode cX10_share 49 = .ok (.invokevirtual 208, 3) := by decide +kernel
theorem dX10_share_52 : decode cX10_share 52 = .ok (.i2l, 1) := by decide +kernel
theorem dX10_share_53 : decode cX10_share 53 = .ok (.lstore 6, 2) := by decide +kernel
theorem dX10_share_55 : decode cX10_share 55 = .ok (.lload 4, 2) := by decide +kernel
theorem dX10_share_57 : decode cX10_share 57 = .ok (.lload 6, 2) := by decide +kernel
theorem dX10_share_59 : decode cX10_share 59 = .ok (.invokestatic 211, 3) := by decide +kernel
theorem dX10_share_62 : decode cX10_share 62 = .ok (.lstore 8, 2) := by decide +kernel
theorem dX10_share_64 : decode cX10_share 64 = .ok (.iload_n 3, 1) := by decide +kernel
theorem dX10_share_65 : decode cX10_share 65 = .ok (.ifCond .ne 11, 3) := by decide +kernel
theorem dX10_share_68 : decode cX10_share 68 = .ok (.lload 4, 2) := by decide +kernel
theorem dX10_share_70 : decode cX10_share 70 = .ok (.lload 8, 2) := by decide +kernel
theorem dX10_share_72 : decode cX10_share 72 = .ok (.ldiv, 1) := by decide +kernel
theorem dX10_share_73 : decode cX10_share 73 = .ok (.goto 17, 3) := by decide +kernel
theorem dX10_share_76 : decode cX10_share 76 = .ok (.iload_n 3, 1) := by decide +kernel
theorem dX10_share_77 : decode cX10_share 77 = .ok (.iconst 1, 1) := by decide +kernel
theorem dX10_share_78 : decode cX10_share 78 = .ok (.if_icmp .ne 11, 3) := by decide +kernel
theorem dX10_share_81 : decode cX10_share 81 = .ok (.lload 6, 2) := by decide +kernel
theorem dX10_share_83 : decode cX10_share 83 = .ok (.lload 8, 2) := by decide +kernel
theorem dX10_share_85 : decode cX10_share 85 = .ok (.ldiv, 1) := by decide +kernel
theorem dX10_share_86 : decode cX10_share 86 = .ok (.goto 4, 3) := by decide +kernel
theorem dX10_share_89 : decode cX10_share 89 = .ok (.lconst 0, 1) := by decide +kernel
theorem dX10_share_90 : decode cX10_share 90 = .ok (.lreturn, 1) := by decide +kernel
theorem dX10_joined_0 : decode cX10_joined 0 = .ok (.aload_n 0, 1) := by decide +kernel
theorem dX10_joined_1 : decode cX10_joined 1 = .ok (.iconst 0, 1) := by decide +kernel
theorem dX10_joined_2 : decode cX10_joined 2 = .ok (.putfield 91, 3) := by decide +kernel
theorem dX10_joined_5 : decode cX10_joined 5 = .ok (.aload_n 0, 1) := by decide +kernel
theorem dX10_joined_6 : decode cX10_joined 6 = .ok (.iload_n 1, 1) := by decide +kernel
theorem dX10_joined_7 : decode cX10_joined 7 = .ok (.invokevirtual 108, 3) := by decide +kernel
theorem dX10_joined_10 : decode cX10_joined 10 = .ok (.ifCond .eq 11, 3) := by decide +kernel
theorem dX10_joined_13 : decode cX10_joined 13 = .ok (.aload_n 0, 1) := by decide +kernel
theorem dX10_joined_14 : decode cX10_joined 14 = .ok (.iload_n 2, 1) := by decide +kernel
theorem dX10_joined_15 : decode cX10_joined 15 = .ok (.invokevirtual 108, 3) := by decide +kernel
theorem dX10_joined_18 : decode cX10_joined 18 = .ok (.ifCond .ne 5, 3) := by decide +kernel
theorem dX10_joined_21 : decode cX10_joined 21 = .ok (.iconst (-1), 1) := by decide +kernel
theorem dX10_joined_22 : decode cX10_joined 22 = .ok (.ireturn, 1) := by decide +kernel
theorem dX10_joined_23 : decode cX10_joined 23 = .ok (.aload_n 0, 1) := by decide +kernel
theorem dX10_joined_24 : decode cX10_joined 24 = .ok (.invokevirtual 194, 3) := by decide +kernel
theorem dX10_joined_27 : decode cX10_joined 27 = .ok (.aload_n 0, 1) := by decide +kernel
theorem dX10_joined_28 : decode cX10_joined 28 = .ok (.getfield 34, 3) := by decide +kernel
theorem dX10_joined_31 : decode cX10_joined 31 = .ok (.iload_n 1, 1) := by decide +kernel
theorem dX10_joined_32 : decode cX10_joined 32 = .ok (.iaload, 1) := by decide +kernel
theorem dX10_joined_33 : decode cX10_joined 33 = .ok (.aload_n 0, 1) := by decide +kernel
theorem dX10_joined_34 : decode cX10_joined 34 = .ok (.getfield 34, 3) := by decide +kernel
theorem dX10_joined_37 : decode cX10_joined 37 = .ok (.iload_n 2, 1) := by decide +kernel
theorem dX10_joined_38 : decode cX10_joined 38 = .ok (.iaload, 1) := by decide +kernel
theorem dX10_joined_39 : decode cX10_joined 39 = .ok (.if_icmp .ne 7, 3) := by decide +kernel
theorem dX10_joined_42 : decode cX10_joined 42 = .ok (.iconst 1, 1) := by decide +kernel
theorem dX10_joined_43 : decode cX10_joined 43 = .ok (.goto 4, 3) := by decide +kernel
theorem dX10_joined_46 : decode cX10_joined 46 = .ok (.iconst 0, 1) := by decide +kernel
theorem dX10_joined_47 : decode cX10_joined 47 = .ok (.ireturn, 1) := by decide +kernel
theorem dX10_span_0 : decode cX10_span 0 = .ok (.aload_n 0, 1) := by decide +kernel
theorem dX10_span_1 : decode cX10_span 1 = .ok (.iconst 0, 1) := by decide +kernel
theorem dX10_span_2 : decode cX10_span 2 = .ok (.putfield 91, 3) := by decide +kernel
theorem dX10_span_5 : decode cX10_span 5 = .ok (.aload_n 0, 1) := by decide +kernel
theorem dX10_span_6 : decode cX10_span 6 = .ok (.iload_n 1, 1) := by decide +kernel
theorem dX10_span_7 : decode cX10_span 7 = .ok (.invokevirtual 108, 3) := by decide +kernel
theorem dX10_span_10 : decode cX10_span 10 = .ok (.ifCond .eq 32, 3) := by decide +kernel
theorem dX10_span_13 : decode cX10_span 13 = .ok (.aload_n 0, 1) := by decide +kernel
theorem dX10_span_14 : decode cX10_span 14 = .ok (.iload_n 2, 1) := by decide +kernel
theorem dX10_span_15 : decode cX10_span 15 = .ok (.invokevirtual 108, 3) := by decide +kernel
theorem dX10_span_18 : decode cX10_span 18 = .ok (.ifCond .eq 24, 3) := by decide +kernel
theorem dX10_span_21 : decode cX10_span 21 = .ok (.iload_n 3, 1) := by decide +kernel
theorem dX10_span_22 : decode cX10_span 22 = .ok (.i2l, 1) := by decide +kernel
theorem dX10_span_23 : decode cX10_span 23 = .ok (.lconst 0, 1) := by decide +kernel
theorem dX10_span_24 : decode cX10_span 24 = .ok (.lconst 1, 1) := by decide +kernel
theorem dX10_span_25 : decode cX10_span 25 = .ok (.invokestatic 94, 3) := by decide +kernel
theorem dX10_span_28 : decode cX10_span 28 = .ok (.ifCond .eq 14, 3) := by decide +kernel
theorem dX10_span_31 : decode cX10_span 31 = .ok (.iload 4, 2) := by decide +kernel
theorem dX10_span_33 : decode cX10_span 33 = .ok (.i2l, 1) := by decide +kernel
theorem dX10_span_34 : decode cX10_span 34 = .ok (.lconst 0, 1) := by decide +kernel
theorem dX10_span_35 : decode cX10_span 35 = .ok (.lconst 1, 1) := by decide +kernel
theorem dX10_span_36 : decode cX10_span 36 = .ok (.invokestatic 94, 3) := by decide +kernel
theorem dX10_span_39 : decode cX10_span 39 = .ok (.ifCond .ne 7, 3) := by decide +kernel
theorem dX10_span_42 : decode cX10_span 42 = .ok (.ldc2_w 215, 3) := by decide +kernel
theorem dX10_span_45 : decode cX10_span 45 = .ok (.lreturn, 1) := by decide +kernel
theorem dX10_span_46 : decode cX10_span 46 = .ok (.aload_n 0, 1) := by decide +kernel
theorem dX10_span_47 : decode cX10_span 47 = .ok (.invokevirtual 194, 3) := by decide +kernel
theorem dX10_span_50 : decode cX10_span 50 = .ok (.aload_n 0, 1) := by decide +kernel
theorem dX10_span_51 : decode cX10_span 51 = .ok (.getfield 31, 3) := by decide +kernel
theorem dX10_span_54 : decode cX10_span 54 = .ok (.bipush 6, 2) := by decide +kernel
theorem dX10_span_56 : decode cX10_span 56 = .ok (.iload_n 1, 1) := by decide +kernel
theorem dX10_span_57 : decode cX10_span 57 = .ok (.imul, 1) := by decide +kernel
theorem dX10_span_58 : decode cX10_span 58 = .ok (.iload_n 2, 1) := by decide +kernel
theorem dX10_span_59 : decode cX10_span 59 = .ok (.iadd, 1) := by decide +kernel
theorem dX10_span_60 : decode cX10_span 60 = .ok (.iaload, 1) := by decide +kernel
theorem dX10_span_61 : decode cX10_span 61 = .ok (.i2l, 1) := by decide +kernel
theorem dX10_span_62 : decode cX10_span 62 = .ok (.ldc2_w 86, 3) := by decide +kernel
theorem dX10_span_65 : decode cX10_span 65 = .ok (.iload_n 3, 1) := by decide +kernel
theorem dX10_span_66 : decode cX10_span 66 = .ok (.i2l, 1) := by decide +kernel
theorem dX10_span_67 : decode cX10_span 67 = .ok (.lmul, 1) := by decide +kernel
theorem dX10_span_68 : decode cX10_span 68 = .ok (.ladd, 1) := by decide +kernel
theorem dX10_span_69 : decode cX10_span 69 = .ok (.lstore 5, 2) := by decide +kernel
theorem dX10_span_71 : decode cX10_span 71 = .ok (.aload_n 0, 1) := by decide +kernel
theorem dX10_span_72 : decode cX10_span 72 = .ok (.iload_n 1, 1) := by decide +kernel
theorem dX10_span_73 : decode cX10_span 73 = .ok (.invokevirtual 187, 3) := by decide +kernel
theorem dX10_span_76 : decode cX10_span 76 = .ok (.i2l, 1) := by decide +kernel
theorem dX10_span_77 : decode cX10_span 77 = .ok (.ldc2_w 86, 3) := by decide +kernel
theorem dX10_span_80 : decode cX10_span 80 = .ok (.ladd, 1) := by decide +kernel
theorem dX10_span_81 : decode cX10_span 81 = .ok (.lstore 7, 2) := by decide +kernel
theorem dX10_span_83 : decode cX10_span 83 = .ok (.iload 4, 2) := by decide +kernel
theorem dX10_span_85 : decode cX10_span 85 = .ok (.ifCond .ne 8, 3) := by decide +kernel
theorem dX10_span_88 : decode cX10_span 88 = .ok (.lload 5, 2) := by decide +kernel
theorem dX10_span_90 : decode cX10_span 90 = .ok (.goto 5, 3) := by decide +kernel
theorem dX10_span_93 : decode cX10_span 93 = .ok (.lload 7, 2) := by decide +kernel
theorem dX10_span_95 : decode cX10_span 95 = .ok (.lload 5, 2) := by decide +kernel
theorem dX10_span_97 : decode cX10_span 97 = .ok (.lload 7, 2) := by decide +kernel
theorem dX10_span_99 : decode cX10_span 99 = .ok (.invokestatic 211, 3) := by decide +kernel
theorem dX10_span_102 : decode cX10_span 102 = .ok (.ldiv, 1) := by decide +kernel
theorem dX10_span_103 : decode cX10_span 103 = .ok (.lreturn, 1) := by decide +kernel
set_option maxRecDepth 20000 in
theorem v_X10_amountOf_0 {g : xG} {Q : mQ} {s : MV} {x0 : Nat} {x1 : Nat} {x2 : Nat} {x3 : Int32} {x4 : Int32} (V : BlkM g M_X10_amountOf x0 Q 16 [(0, .ref x0), (1, .int (nI x1)), (2, .int (nI x2)), (3, .int x3), (4, .int x4), (5, .int (nI 0)), (6, .int (-1)), (7, .int (nI 6)), (8, .int (nI 0)), (9, .int (nI 0))] [] s) : BlkM g M_X10_amountOf x0 Q 0 [(0, .ref x0), (1, .int (nI x1)), (2, .int (nI x2)), (3, .int x3), (4, .int x4)] [] s := by
  intro h0 h nx HO HM
  refine r_iconst (v := (nI 0)) dX10_amountOf_0 rfl ?_
  refine r_istore (L' := [(5, .int (nI 0)), (0, .ref x0), (1, .int (nI x1)), (2, .int (nI x2)), (3, .int x3), (4, .int x4)]) dX10_amountOf_1 (by decide) rfl ?_
  refine r_iconst (v := (-1)) dX10_amountOf_3 rfl ?_
  refine r_istore (L' := [(6, .int (-1)), (5, .int (nI 0)), (0, .ref x0), (1, .int (nI x1)), (2, .int (nI x2)), (3, .int x3), (4, .int x4)]) dX10_amountOf_4 (by decide) rfl ?_
  refine r_bipush (v := (nI 6)) dX10_amountOf_6 rfl ?_
  refine r_istore (L' := [(7, .int (nI 6)), (6, .int (-1)), (5, .int (nI 0)), (0, .ref x0), (1, .int (nI x1)), (2, .int (nI x2)), (3, .int x3), (4, .int x4)]) dX10_amountOf_8 (by decide) rfl ?_
  refine r_iconst (v := (nI 0)) dX10_amountOf_10 rfl ?_
  refine r_istore (L' := [(8, .int (nI 0)), (7, .int (nI 6)), (6, .int (-1)), (5, .int (nI 0)), (0, .ref x0), (1, .int (nI x1)), (2, .int (nI x2)), (3, .int x3), (4, .int x4)]) dX10_amountOf_11 (by decide) rfl ?_
  refine r_iconst (v := (nI 0)) dX10_amountOf_13 rfl ?_
  refine r_istore (L' := [(9, .int (nI 0)), (8, .int (nI 0)), (7, .int (nI 6)), (6, .int (-1)), (5, .int (nI 0)), (0, .ref x0), (1, .int (nI x1)), (2, .int (nI x2)), (3, .int x3), (4, .int x4)]) dX10_amountOf_14 (by decide) rfl ?_
  exact Blk.sub [5, 6, 7, 8, 9, 4, 3, 2, 1, 0] rfl (V _ _ _ HO HM)
set_option maxRecDepth 20000 in
theorem v_X10_amountOf_16 {g : xG} {Q : mQ} {s : MV} {x0 : Nat} {x1 : Nat} {x2 : Nat} {x3 : Int32} {x4 : Int32} {x5 : Nat} {x6 : Int32} {x7 : Int32} {x8 : Nat} {x9 : Nat} (V : ((x9 < 2 ^ 31 ∧ 4 < 2 ^ 31) ∧ ((4 ≤ x9 → ((¬ x3 = (nI 1) → ((¬ x3 = (nI 2) → ((¬ x3 = (nI 3) → (Q (some (.int (nI x8))) s)) ∧ (x3 = (nI 3) → (Q (some (.int x7)) s)))) ∧ (x3 = (nI 2) → (Q (some (.int x6)) s)))) ∧ (x3 = (nI 1) → (Q (some (.int (nI x5))) s)))) ∧ (x9 < 4 → (CtP g M_X10_spot [.int (nI x1), .int (nI x2), .int (nI x9)] (fun r => ∃ v3 : Nat, r = some (.int (nI v3)) ∧ (v3 < 480 ∧ ((¬ (s.mk v3) = (-1) → BlkM g M_X10_amountOf x0 Q 52 [(0, .ref x0), (1, .int (nI x1)), (2, .int (nI x2)), (3, .int x3), (4, .int x4), (5, .int (nI (x5 + 1))), (6, .int x6), (7, .int x7), (8, .int (nI x8)), (9, .int (nI x9)), (10, .int (s.mk v3))] [] s) ∧ ((s.mk v3) = (-1) → BlkM g M_X10_amountOf x0 Q 52 [(0, .ref x0), (1, .int (nI x1)), (2, .int (nI x2)), (3, .int x3), (4, .int x4), (5, .int (nI (x5 + 0))), (6, .int x6), (7, .int x7), (8, .int (nI x8)), (9, .int (nI x9)), (10, .int (s.mk v3))] [] s))))))))) : BlkM g M_X10_amountOf x0 Q 16 [(0, .ref x0), (1, .int (nI x1)), (2, .int (nI x2)), (3, .int x3), (4, .int x4), (5, .int (nI x5)), (6, .int x6), (7, .int x7), (8, .int (nI x8)), (9, .int (nI x9))] [] s := by
  intro h0 h nx HO HM
  refine r_iload 9 dX10_amountOf_16 rfl ?_
  refine r_iconst (v := (nI 4)) dX10_amountOf_18 rfl ?_
  obtain ⟨c, V⟩ := V
  refine r_icmp_geN (tgt := 119) dX10_amountOf_19 (by decide) c (fun c => ?_) (fun c => ?_)
  · have V := V.1 c
    refine r_iload_n 3 dX10_amountOf_119 rfl rfl ?_
    refine r_iconst (v := (nI 1)) dX10_amountOf_120 rfl ?_
    refine r_icmp_ne (tgt := 129) dX10_amountOf_121 (by decide) (fun c => ?_) (fun c => ?_)
    · have V := V.1 c
      refine r_iload_n 3 dX10_amountOf_129 rfl rfl ?_
      refine r_iconst (v := (nI 2)) dX10_amountOf_130 rfl ?_
      refine r_icmp_ne (tgt := 139) dX10_amountOf_131 (by decide) (fun c => ?_) (fun c => ?_)
      · have V := V.1 c
        refine r_iload_n 3 dX10_amountOf_139 rfl rfl ?_
        refine r_iconst (v := (nI 3)) dX10_amountOf_140 rfl ?_
        refine r_icmp_ne (tgt := 149) dX10_amountOf_141 (by decide) (fun c => ?_) (fun c => ?_)
        · have V := V.1 c
          refine r_iload 8 dX10_amountOf_149 rfl ?_
          exact r_iret dX10_amountOf_151 rfl (by decide) (by decide) ⟨rfl, HO, _, HM, V⟩
        · have V := V.2 c
          refine r_iload 7 dX10_amountOf_144 rfl ?_
          refine r_goto (tgt := 151) dX10_amountOf_146 (by decide) ?_
          exact r_iret dX10_amountOf_151 rfl (by decide) (by decide) ⟨rfl, HO, _, HM, V⟩
      · have V := V.2 c
        refine r_iload 6 dX10_amountOf_134 rfl ?_
        refine r_goto (tgt := 151) dX10_amountOf_136 (by decide) ?_
        exact r_iret dX10_amountOf_151 rfl (by decide) (by decide) ⟨rfl, HO, _, HM, V⟩
    · have V := V.2 c
      refine r_iload 5 dX10_amountOf_124 rfl ?_
      refine r_goto (tgt := 151) dX10_amountOf_126 (by decide) ?_
      exact r_iret dX10_amountOf_151 rfl (by decide) (by decide) ⟨rfl, HO, _, HM, V⟩
  · have V := V.2 c
    refine r_aload_n 0 dX10_amountOf_22 rfl rfl ?_
    refine r_getf (ci := 11) (kf := 2) (T := TX10) rfl in_X10 (by decide) wF_X10_7 dX10_amountOf_23 (MAt.o_ HM) rfl ?_
    refine r_iload_n 1 dX10_amountOf_26 rfl rfl ?_
    refine r_iload_n 2 dX10_amountOf_27 rfl rfl ?_
    refine r_iload 9 dX10_amountOf_28 rfl ?_
    refine r_callS (M2 := M_X10_spot) (n := 3) (As := [.int (nI x1), .int (nI x2), .int (nI x9)]) (wl4 wM_X10_112 ws_X10_spot wI_StateSharesModel wc_X10_spot) (by decide +kernel) (by decide) rfl rfl (Nat.le_of_ble_eq_true rfl) dX10_amountOf_30 (by decide) (by decide) (Ct.imp (V _ _) (fun r h1 n2 V => ?_))
    obtain ⟨rfl, rfl, V⟩ := V
    obtain ⟨v3, rfl, V⟩ := V
    show Blk g M_X10_amountOf (pM x0 h0 nx Q) 33 [(0, .ref x0), (1, .int (nI x1)), (2, .int (nI x2)), (3, .int x3), (4, .int x4), (5, .int (nI x5)), (6, .int x6), (7, .int x7), (8, .int (nI x8)), (9, .int (nI x9))] [.int (nI v3), .ref (x0 + 1)] h nx 0 0
    obtain ⟨c, V⟩ := V
    refine r_iald dX10_amountOf_33 (MAt.g_mk HM) rfl c (by decide) ?_
    show Blk g M_X10_amountOf (pM x0 h0 nx Q) 34 [(0, .ref x0), (1, .int (nI x1)), (2, .int (nI x2)), (3, .int x3), (4, .int x4), (5, .int (nI x5)), (6, .int x6), (7, .int x7), (8, .int (nI x8)), (9, .int (nI x9))] [.int (s.mk v3)] h nx 0 0
    refine r_istore (L' := [(10, .int (s.mk v3)), (0, .ref x0), (1, .int (nI x1)), (2, .int (nI x2)), (3, .int x3), (4, .int x4), (5, .int (nI x5)), (6, .int x6), (7, .int x7), (8, .int (nI x8)), (9, .int (nI x9))]) dX10_amountOf_34 (by decide) rfl ?_
    refine r_iload 6 dX10_amountOf_36 rfl ?_
    refine r_iload 0 dX10_amountOf_38 rfl ?_
    refine r_iconst (v := (-1)) dX10_amountOf_40 rfl ?_
    refine r_icmp_ne (tgt := 48) dX10_amountOf_41 (by decide) (fun c => ?_) (fun c => ?_)
    · have V := V.1 c
      refine r_iconst (v := (nI 1)) dX10_amountOf_48 rfl ?_
      refine r_iaddN dX10_amountOf_49 ?_
      refine r_istore (L' := [(5, .int (nI (x5 + 1))), (10, .int (s.mk v3)), (0, .ref x0), (1, .int (nI x1)), (2, .int (nI x2)), (3, .int x3), (4, .int x4), (6, .int x6), (7, .int x7), (8, .int (nI x8)), (9, .int (nI x9))]) dX10_amountOf_50 (by decide) rfl ?_
      exact Blk.sub [2, 3, 4, 5, 6, 0, 7, 8, 9, 10, 1] rfl (V _ _ _ HO HM)
    · have V := V.2 c
      refine r_iconst (v := (nI 0)) dX10_amountOf_44 rfl ?_
      refine r_goto (tgt := 49) dX10_amountOf_45 (by decide) ?_
      refine r_iaddN dX10_amountOf_49 ?_
      refine r_istore (L' := [(5, .int (nI (x5 + 0))), (10, .int (s.mk v3)), (0, .ref x0), (1, .int (nI x1)), (2, .int (nI x2)), (3, .int x3), (4, .int x4), (6, .int x6), (7, .int x7), (8, .int (nI x8)), (9, .int (nI x9))]) dX10_amountOf_50 (by decide) rfl ?_
      exact Blk.sub [2, 3, 4, 5, 6, 0, 7, 8, 9, 10, 1] rfl (V _ _ _ HO HM)
set_option maxRecDepth 20000 in
theorem v_X10_amountOf_52 {g : xG} {Q : mQ} {s : MV} {x0 : Nat} {x1 : Nat} {x2 : Nat} {x3 : Int32} {x4 : Int32} {x5 : Nat} {x6 : Int32} {x7 : Int32} {x8 : Nat} {x9 : Nat} {x10 : Int32} (V : ((x10 ≤ x6 → BlkM g M_X10_amountOf x0 Q 68 [(0, .ref x0), (1, .int (nI x1)), (2, .int (nI x2)), (3, .int x3), (4, .int x4), (5, .int (nI x5)), (6, .int x6), (7, .int x7), (8, .int (nI x8)), (9, .int (nI x9)), (10, .int x10)] [] s) ∧ (¬ x10 ≤ x6 → BlkM g M_X10_amountOf x0 Q 68 [(0, .ref x0), (1, .int (nI x1)), (2, .int (nI x2)), (3, .int x3), (4, .int x4), (5, .int (nI x5)), (6, .int x10), (7, .int x7), (8, .int (nI x8)), (9, .int (nI x9)), (10, .int x10)] [] s))) : BlkM g M_X10_amountOf x0 Q 52 [(0, .ref x0), (1, .int (nI x1)), (2, .int (nI x2)), (3, .int x3), (4, .int x4), (5, .int (nI x5)), (6, .int x6), (7, .int x7), (8, .int (nI x8)), (9, .int (nI x9)), (10, .int x10)] [] s := by
  intro h0 h nx HO HM
  refine r_iload 10 dX10_amountOf_52 rfl ?_
  refine r_iload 6 dX10_amountOf_54 rfl ?_
  refine r_icmp_le (tgt := 64) dX10_amountOf_56 (by decide) (fun c => ?_) (fun c => ?_)
  · have V := V.1 c
    refine r_iload 6 dX10_amountOf_64 rfl ?_
    refine r_istore (L' := [(6, .int x6), (0, .ref x0), (1, .int (nI x1)), (2, .int (nI x2)), (3, .int x3), (4, .int x4), (5, .int (nI x5)), (7, .int x7), (8, .int (nI x8)), (9, .int (nI x9)), (10, .int x10)]) dX10_amountOf_66 (by decide) rfl ?_
    exact Blk.sub [1, 2, 3, 4, 5, 6, 0, 7, 8, 9, 10] rfl (V _ _ _ HO HM)
  · have V := V.2 c
    refine r_iload 10 dX10_amountOf_59 rfl ?_
    refine r_goto (tgt := 66) dX10_amountOf_61 (by decide) ?_
    refine r_istore (L' := [(6, .int x10), (0, .ref x0), (1, .int (nI x1)), (2, .int (nI x2)), (3, .int x3), (4, .int x4), (5, .int (nI x5)), (7, .int x7), (8, .int (nI x8)), (9, .int (nI x9)), (10, .int x10)]) dX10_amountOf_66 (by decide) rfl ?_
    exact Blk.sub [1, 2, 3, 4, 5, 6, 0, 7, 8, 9, 10] rfl (V _ _ _ HO HM)
set_option maxRecDepth 20000 in
theorem v_X10_amountOf_68 {g : xG} {Q : mQ} {s : MV} {x0 : Nat} {x1 : Nat} {x2 : Nat} {x3 : Int32} {x4 : Int32} {x5 : Nat} {x6 : Int32} {x7 : Int32} {x8 : Nat} {x9 : Nat} {x10 : Int32} (V : ((x10 = (-1) → BlkM g M_X10_amountOf x0 Q 90 [(0, .ref x0), (1, .int (nI x1)), (2, .int (nI x2)), (3, .int x3), (4, .int x4), (5, .int (nI x5)), (6, .int x6), (7, .int x7), (8, .int (nI x8)), (9, .int (nI x9)), (10, .int x10)] [] s) ∧ (¬ x10 = (-1) → ((x7 ≤ x10 → BlkM g M_X10_amountOf x0 Q 90 [(0, .ref x0), (1, .int (nI x1)), (2, .int (nI x2)), (3, .int x3), (4, .int x4), (5, .int (nI x5)), (6, .int x6), (7, .int x7), (8, .int (nI x8)), (9, .int (nI x9)), (10, .int x10)] [] s) ∧ (¬ x7 ≤ x10 → BlkM g M_X10_amountOf x0 Q 90 [(0, .ref x0), (1, .int (nI x1)), (2, .int (nI x2)), (3, .int x3), (4, .int x4), (5, .int (nI x5)), (6, .int x6), (7, .int x10), (8, .int (nI x8)), (9, .int (nI x9)), (10, .int x10)] [] s))))) : BlkM g M_X10_amountOf x0 Q 68 [(0, .ref x0), (1, .int (nI x1)), (2, .int (nI x2)), (3, .int x3), (4, .int x4), (5, .int (nI x5)), (6, .int x6), (7, .int x7), (8, .int (nI x8)), (9, .int (nI x9)), (10, .int x10)] [] s := by
  intro h0 h nx HO HM
  refine r_iload 10 dX10_amountOf_68 rfl ?_
  refine r_iconst (v := (-1)) dX10_amountOf_70 rfl ?_
  refine r_icmp_eq (tgt := 86) dX10_amountOf_71 (by decide) (fun c => ?_) (fun c => ?_)
  · have V := V.1 c
    refine r_iload 7 dX10_amountOf_86 rfl ?_
    refine r_istore (L' := [(7, .int x7), (0, .ref x0), (1, .int (nI x1)), (2, .int (nI x2)), (3, .int x3), (4, .int x4), (5, .int (nI x5)), (6, .int x6), (8, .int (nI x8)), (9, .int (nI x9)), (10, .int x10)]) dX10_amountOf_88 (by decide) rfl ?_
    exact Blk.sub [1, 2, 3, 4, 5, 6, 7, 0, 8, 9, 10] rfl (V _ _ _ HO HM)
  · have V := V.2 c
    refine r_iload 10 dX10_amountOf_74 rfl ?_
    refine r_iload 7 dX10_amountOf_76 rfl ?_
    refine r_icmp_ge (tgt := 86) dX10_amountOf_78 (by decide) (fun c => ?_) (fun c => ?_)
    · have V := V.1 c
      refine r_iload 7 dX10_amountOf_86 rfl ?_
      refine r_istore (L' := [(7, .int x7), (0, .ref x0), (1, .int (nI x1)), (2, .int (nI x2)), (3, .int x3), (4, .int x4), (5, .int (nI x5)), (6, .int x6), (8, .int (nI x8)), (9, .int (nI x9)), (10, .int x10)]) dX10_amountOf_88 (by decide) rfl ?_
      exact Blk.sub [1, 2, 3, 4, 5, 6, 7, 0, 8, 9, 10] rfl (V _ _ _ HO HM)
    · have V := V.2 c
      refine r_iload 10 dX10_amountOf_81 rfl ?_
      refine r_goto (tgt := 88) dX10_amountOf_83 (by decide) ?_
      refine r_istore (L' := [(7, .int x10), (0, .ref x0), (1, .int (nI x1)), (2, .int (nI x2)), (3, .int x3), (4, .int x4), (5, .int (nI x5)), (6, .int x6), (8, .int (nI x8)), (9, .int (nI x9)), (10, .int x10)]) dX10_amountOf_88 (by decide) rfl ?_
      exact Blk.sub [1, 2, 3, 4, 5, 6, 7, 0, 8, 9, 10] rfl (V _ _ _ HO HM)
set_option maxRecDepth 20000 in
theorem v_X10_amountOf_90 {g : xG} {Q : mQ} {s : MV} {x0 : Nat} {x1 : Nat} {x2 : Nat} {x3 : Int32} {x4 : Int32} {x5 : Nat} {x6 : Int32} {x7 : Int32} {x8 : Nat} {x9 : Nat} {x10 : Int32} (V : ((x10 = (-1) → BlkM g M_X10_amountOf x0 Q 113 [(0, .ref x0), (1, .int (nI x1)), (2, .int (nI x2)), (3, .int x3), (4, .int x4), (5, .int (nI x5)), (6, .int x6), (7, .int x7), (8, .int (nI (x8 + 0))), (9, .int (nI x9))] [] s) ∧ (¬ x10 = (-1) → ((¬ x10 = x4 → BlkM g M_X10_amountOf x0 Q 113 [(0, .ref x0), (1, .int (nI x1)), (2, .int (nI x2)), (3, .int x3), (4, .int x4), (5, .int (nI x5)), (6, .int x6), (7, .int x7), (8, .int (nI (x8 + 0))), (9, .int (nI x9))] [] s) ∧ (x10 = x4 → BlkM g M_X10_amountOf x0 Q 113 [(0, .ref x0), (1, .int (nI x1)), (2, .int (nI x2)), (3, .int x3), (4, .int x4), (5, .int (nI x5)), (6, .int x6), (7, .int x7), (8, .int (nI (x8 + 1))), (9, .int (nI x9))] [] s))))) : BlkM g M_X10_amountOf x0 Q 90 [(0, .ref x0), (1, .int (nI x1)), (2, .int (nI x2)), (3, .int x3), (4, .int x4), (5, .int (nI x5)), (6, .int x6), (7, .int x7), (8, .int (nI x8)), (9, .int (nI x9)), (10, .int x10)] [] s := by
  intro h0 h nx HO HM
  refine r_iload 8 dX10_amountOf_90 rfl ?_
  refine r_iload 10 dX10_amountOf_92 rfl ?_
  refine r_iconst (v := (-1)) dX10_amountOf_94 rfl ?_
  refine r_icmp_eq (tgt := 109) dX10_amountOf_95 (by decide) (fun c => ?_) (fun c => ?_)
  · have V := V.1 c
    refine r_iconst (v := (nI 0)) dX10_amountOf_109 rfl ?_
    refine r_iaddN dX10_amountOf_110 ?_
    refine r_istore (L' := [(8, .int (nI (x8 + 0))), (0, .ref x0), (1, .int (nI x1)), (2, .int (nI x2)), (3, .int x3), (4, .int x4), (5, .int (nI x5)), (6, .int x6), (7, .int x7), (9, .int (nI x9)), (10, .int x10)]) dX10_amountOf_111 (by decide) rfl ?_
    exact Blk.sub [1, 2, 3, 4, 5, 6, 7, 8, 0, 9] rfl (V _ _ _ HO HM)
  · have V := V.2 c
    refine r_iload 10 dX10_amountOf_98 rfl ?_
    refine r_iload 4 dX10_amountOf_100 rfl ?_
    refine r_icmp_ne (tgt := 109) dX10_amountOf_102 (by decide) (fun c => ?_) (fun c => ?_)
    · have V := V.1 c
      refine r_iconst (v := (nI 0)) dX10_amountOf_109 rfl ?_
      refine r_iaddN dX10_amountOf_110 ?_
      refine r_istore (L' := [(8, .int (nI (x8 + 0))), (0, .ref x0), (1, .int (nI x1)), (2, .int (nI x2)), (3, .int x3), (4, .int x4), (5, .int (nI x5)), (6, .int x6), (7, .int x7), (9, .int (nI x9)), (10, .int x10)]) dX10_amountOf_111 (by decide) rfl ?_
      exact Blk.sub [1, 2, 3, 4, 5, 6, 7, 8, 0, 9] rfl (V _ _ _ HO HM)
    · have V := V.2 c
      refine r_iconst (v := (nI 1)) dX10_amountOf_105 rfl ?_
      refine r_goto (tgt := 110) dX10_amountOf_106 (by decide) ?_
      refine r_iaddN dX10_amountOf_110 ?_
      refine r_istore (L' := [(8, .int (nI (x8 + 1))), (0, .ref x0), (1, .int (nI x1)), (2, .int (nI x2)), (3, .int x3), (4, .int x4), (5, .int (nI x5)), (6, .int x6), (7, .int x7), (9, .int (nI x9)), (10, .int x10)]) dX10_amountOf_111 (by decide) rfl ?_
      exact Blk.sub [1, 2, 3, 4, 5, 6, 7, 8, 0, 9] rfl (V _ _ _ HO HM)
set_option maxRecDepth 20000 in
theorem v_X10_amountOf_113 {g : xG} {Q : mQ} {s : MV} {x0 : Nat} {x1 : Nat} {x2 : Nat} {x3 : Int32} {x4 : Int32} {x5 : Nat} {x6 : Int32} {x7 : Int32} {x8 : Nat} {x9 : Nat} (V : BlkM g M_X10_amountOf x0 Q 16 [(0, .ref x0), (1, .int (nI x1)), (2, .int (nI x2)), (3, .int x3), (4, .int x4), (5, .int (nI x5)), (6, .int x6), (7, .int x7), (8, .int (nI x8)), (9, .int (nI (x9 + 1)))] [] s) : BlkM g M_X10_amountOf x0 Q 113 [(0, .ref x0), (1, .int (nI x1)), (2, .int (nI x2)), (3, .int x3), (4, .int x4), (5, .int (nI x5)), (6, .int x6), (7, .int x7), (8, .int (nI x8)), (9, .int (nI x9))] [] s := by
  intro h0 h nx HO HM
  refine r_iincN 9 (b := 1) (L' := [(9, .int (nI (x9 + 1))), (0, .ref x0), (1, .int (nI x1)), (2, .int (nI x2)), (3, .int x3), (4, .int x4), (5, .int (nI x5)), (6, .int x6), (7, .int x7), (8, .int (nI x8))]) dX10_amountOf_113 rfl rfl (by decide) rfl ?_
  refine r_goto (tgt := 16) dX10_amountOf_116 (by decide) ?_
  exact Blk.sub [1, 2, 3, 4, 5, 6, 7, 8, 9, 0] rfl (V _ _ _ HO HM)
set_option maxRecDepth 20000 in
theorem v_X10_middleOf_0 {g : xG} {Q : mQ} {s : MV} {x0 : Nat} {x1 : Nat} {x2 : Nat} (V : (CtM g M_X10_amountOf [.ref x0, .int (nI x1), .int (nI x2), .int (nI 1), .int (nI 0)] x0 s (fun r s3 => ∃ v4 : Int32, r = some (.int v4) ∧ (∃ z5 : Nat, v4 = nI z5 ∧ BlkM g M_X10_middleOf x0 Q 15 [(0, .ref x0), (1, .int (nI x1)), (2, .int (nI x2)), (3, .int (nI z5)), (4, .int (nI 0)), (5, .int (nI 0))] [] s3)))) : BlkM g M_X10_middleOf x0 Q 0 [(0, .ref x0), (1, .int (nI x1)), (2, .int (nI x2))] [] s := by
  intro h0 h nx HO HM
  refine r_aload_n 0 dX10_middleOf_0 rfl rfl ?_
  refine r_iload_n 1 dX10_middleOf_1 rfl rfl ?_
  refine r_iload_n 2 dX10_middleOf_2 rfl rfl ?_
  refine r_iconst (v := (nI 1)) dX10_middleOf_3 rfl ?_
  refine r_iconst (v := (nI 0)) dX10_middleOf_4 rfl ?_
  refine r_callV (M2 := M_X10_amountOf) (ci := 11) (n := 4) (As := [.int (nI x1), .int (nI x2), .int (nI 1), .int (nI 0)]) rfl (wl5 wM_X10_176 wi_X10_amountOf wS_X10_amountOf wI_StateSharesModel wc_X10_amountOf) (by decide +kernel) (by decide) rfl rfl (Nat.le_of_ble_eq_true rfl) dX10_middleOf_5 (MAt.o_ HM) (by decide) (by decide) (Ct.imp (V _ _ HM) (fun r h1 n2 V => ?_))
  obtain ⟨rfl, Oh1, s3, HMh1, V⟩ := V
  have HOh1 := Off.tr HO Oh1
  obtain ⟨v4, rfl, V⟩ := V
  show Blk g M_X10_middleOf (pM x0 h0 nx Q) 8 [(0, .ref x0), (1, .int (nI x1)), (2, .int (nI x2))] [.int v4] h1 nx 0 0
  refine r_istore_n (L' := [(3, .int v4), (0, .ref x0), (1, .int (nI x1)), (2, .int (nI x2))]) dX10_middleOf_8 rfl (by decide) rfl ?_
  refine r_iconst (v := (nI 0)) dX10_middleOf_9 rfl ?_
  refine r_istore (L' := [(4, .int (nI 0)), (3, .int v4), (0, .ref x0), (1, .int (nI x1)), (2, .int (nI x2))]) dX10_middleOf_10 (by decide) rfl ?_
  refine r_iconst (v := (nI 0)) dX10_middleOf_12 rfl ?_
  refine r_istore (L' := [(5, .int (nI 0)), (4, .int (nI 0)), (3, .int v4), (0, .ref x0), (1, .int (nI x1)), (2, .int (nI x2))]) dX10_middleOf_13 (by decide) rfl ?_
  obtain ⟨z5, e6, V⟩ := V
  exact Blk.sub (L' := [(0, .ref x0), (1, .int (nI x1)), (2, .int (nI x2)), (3, .int (nI z5)), (4, .int (nI 0)), (5, .int (nI 0))]) [3, 4, 5, 2, 1, 0] (by rw [e6]; rfl) (V _ _ _ HOh1 HMh1)
set_option maxRecDepth 20000 in
theorem v_X10_middleOf_15 {g : xG} {Q : mQ} {s : MV} {x0 : Nat} {x1 : Nat} {x2 : Nat} {x3 : Nat} {x4 : Nat} {x5 : Nat} (V : ((x5 < 2 ^ 31 ∧ s.n < 2 ^ 31) ∧ ((s.n ≤ x5 → (Q (some (.int (-1))) s)) ∧ (x5 < s.n → (CtM g M_X10_amountOf [.ref x0, .int (nI x1), .int (nI x2), .int (nI 4), .int (nI x5)] x0 s (fun r s3 => ∃ v4 : Int32, r = some (.int v4) ∧ ((x3 < 2 ^ 31 ∧ 0 < 2 ∧ 2 < 2 ^ 31) ∧ ((((nI x4) + v4) ≤ (nI (x3 / 2)) → (∃ z5 : Nat, ((nI x4) + v4) = nI z5 ∧ BlkM g M_X10_middleOf x0 Q 15 [(0, .ref x0), (1, .int (nI x1)), (2, .int (nI x2)), (3, .int (nI x3)), (4, .int (nI z5)), (5, .int (nI (x5 + 1)))] [] s3)) ∧ (¬ ((nI x4) + v4) ≤ (nI (x3 / 2)) → (Q (some (.int (nI x5))) s3)))))))))) : BlkM g M_X10_middleOf x0 Q 15 [(0, .ref x0), (1, .int (nI x1)), (2, .int (nI x2)), (3, .int (nI x3)), (4, .int (nI x4)), (5, .int (nI x5))] [] s := by
  intro h0 h nx HO HM
  refine r_iload 5 dX10_middleOf_15 rfl ?_
  refine r_aload_n 0 dX10_middleOf_17 rfl rfl ?_
  refine r_getf (ci := 11) (kf := 1) (T := TX10) rfl in_X10 (by decide) wF_X10_75 dX10_middleOf_18 (MAt.o_ HM) rfl ?_
  obtain ⟨c, V⟩ := V
  refine r_icmp_geN (tgt := 55) dX10_middleOf_21 (by decide) c (fun c => ?_) (fun c => ?_)
  · have V := V.1 c
    refine r_iconst (v := (-1)) dX10_middleOf_55 rfl ?_
    exact r_iret dX10_middleOf_56 rfl (by decide) (by decide) ⟨rfl, HO, _, HM, V⟩
  · have V := V.2 c
    refine r_iload 4 dX10_middleOf_24 rfl ?_
    refine r_aload_n 0 dX10_middleOf_26 rfl rfl ?_
    refine r_iload_n 1 dX10_middleOf_27 rfl rfl ?_
    refine r_iload_n 2 dX10_middleOf_28 rfl rfl ?_
    refine r_iconst (v := (nI 4)) dX10_middleOf_29 rfl ?_
    refine r_iload 5 dX10_middleOf_30 rfl ?_
    refine r_callV (M2 := M_X10_amountOf) (ci := 11) (n := 4) (As := [.int (nI x1), .int (nI x2), .int (nI 4), .int (nI x5)]) rfl (wl5 wM_X10_176 wi_X10_amountOf wS_X10_amountOf wI_StateSharesModel wc_X10_amountOf) (by decide +kernel) (by decide) rfl rfl (Nat.le_of_ble_eq_true rfl) dX10_middleOf_32 (MAt.o_ HM) (by decide) (by decide) (Ct.imp (V _ _ HM) (fun r h1 n2 V => ?_))
    obtain ⟨rfl, Oh1, s3, HMh1, V⟩ := V
    have HOh1 := Off.tr HO Oh1
    obtain ⟨v4, rfl, V⟩ := V
    show Blk g M_X10_middleOf (pM x0 h0 nx Q) 35 [(0, .ref x0), (1, .int (nI x1)), (2, .int (nI x2)), (3, .int (nI x3)), (4, .int (nI x4)), (5, .int (nI x5))] [.int v4, .int (nI x4)] h1 nx 0 0
    refine r_iadd dX10_middleOf_35 ?_
    refine r_istore (L' := [(4, .int ((nI x4) + v4)), (0, .ref x0), (1, .int (nI x1)), (2, .int (nI x2)), (3, .int (nI x3)), (5, .int (nI x5))]) dX10_middleOf_36 (by decide) rfl ?_
    refine r_iload 0 dX10_middleOf_38 rfl ?_
    refine r_iload_n 4 dX10_middleOf_40 rfl rfl ?_
    refine r_iconst (v := (nI 2)) dX10_middleOf_41 rfl ?_
    obtain ⟨c, V⟩ := V
    refine r_idivN dX10_middleOf_42 c ?_
    refine r_icmp_le (tgt := 49) dX10_middleOf_43 (by decide) (fun c => ?_) (fun c => ?_)
    · have V := V.1 c
      refine r_iincN 5 (b := 1) (L' := [(5, .int (nI (x5 + 1))), (4, .int ((nI x4) + v4)), (0, .ref x0), (1, .int (nI x1)), (2, .int (nI x2)), (3, .int (nI x3))]) dX10_middleOf_49 rfl rfl (by decide) rfl ?_
      refine r_goto (tgt := 15) dX10_middleOf_52 (by decide) ?_
      obtain ⟨z5, e6, V⟩ := V
      exact Blk.sub (L' := [(0, .ref x0), (1, .int (nI x1)), (2, .int (nI x2)), (3, .int (nI x3)), (4, .int (nI z5)), (5, .int (nI (x5 + 1)))]) [2, 3, 4, 5, 1, 0] (by rw [e6]; rfl) (V _ _ _ HOh1 HMh1)
    · have V := V.2 c
      refine r_iload 5 dX10_middleOf_46 rfl ?_
      exact r_iret dX10_middleOf_48 rfl (by decide) (by decide) ⟨rfl, HOh1, _, HMh1, V⟩
set_option maxRecDepth 20000 in
theorem v_X10_gradeOf_0 {g : xG} {Q : mQ} {s : MV} {x0 : Nat} {x1 : Nat} {x2 : Nat} (V : (CtM g M_X10_amountOf [.ref x0, .int (nI x1), .int (nI x2), .int (nI 1), .int (nI 0)] x0 s (fun r s3 => ∃ v4 : Int32, r = some (.int v4) ∧ ((¬ v4 = 0 → BlkM g M_X10_gradeOf x0 Q 15 [(0, .ref x0), (1, .int (nI x1)), (2, .int (nI x2)), (3, .int (nI 0))] [] s3) ∧ (v4 = 0 → (Q (some (.int (-1))) s3)))))) : BlkM g M_X10_gradeOf x0 Q 0 [(0, .ref x0), (1, .int (nI x1)), (2, .int (nI x2))] [] s := by
  intro h0 h nx HO HM
  refine r_aload_n 0 dX10_gradeOf_0 rfl rfl ?_
  refine r_iload_n 1 dX10_gradeOf_1 rfl rfl ?_
  refine r_iload_n 2 dX10_gradeOf_2 rfl rfl ?_
  refine r_iconst (v := (nI 1)) dX10_gradeOf_3 rfl ?_
  refine r_iconst (v := (nI 0)) dX10_gradeOf_4 rfl ?_
  refine r_callV (M2 := M_X10_amountOf) (ci := 11) (n := 4) (As := [.int (nI x1), .int (nI x2), .int (nI 1), .int (nI 0)]) rfl (wl5 wM_X10_176 wi_X10_amountOf wS_X10_amountOf wI_StateSharesModel wc_X10_amountOf) (by decide +kernel) (by decide) rfl rfl (Nat.le_of_ble_eq_true rfl) dX10_gradeOf_5 (MAt.o_ HM) (by decide) (by decide) (Ct.imp (V _ _ HM) (fun r h1 n2 V => ?_))
  obtain ⟨rfl, Oh1, s3, HMh1, V⟩ := V
  have HOh1 := Off.tr HO Oh1
  obtain ⟨v4, rfl, V⟩ := V
  show Blk g M_X10_gradeOf (pM x0 h0 nx Q) 8 [(0, .ref x0), (1, .int (nI x1)), (2, .int (nI x2))] [.int v4] h1 nx 0 0
  refine r_if_ne (tgt := 13) dX10_gradeOf_8 (by decide) (fun c => ?_) (fun c => ?_)
  · have V := V.1 c
    refine r_iconst (v := (nI 0)) dX10_gradeOf_13 rfl ?_
    refine r_istore_n (L' := [(3, .int (nI 0)), (0, .ref x0), (1, .int (nI x1)), (2, .int (nI x2))]) dX10_gradeOf_14 rfl (by decide) rfl ?_
    exact Blk.sub [1, 2, 3, 0] rfl (V _ _ _ HOh1 HMh1)
  · have V := V.2 c
    refine r_iconst (v := (-1)) dX10_gradeOf_11 rfl ?_
    exact r_iret dX10_gradeOf_12 rfl (by decide) (by decide) ⟨rfl, HOh1, _, HMh1, V⟩
set_option maxRecDepth 20000 in
theorem v_X10_gradeOf_15 {g : xG} {Q : mQ} {s : MV} {x0 : Nat} {x1 : Nat} {x2 : Nat} {x3 : Nat} (V : ((x3 < 2 ^ 31 ∧ s.ru < 2 ^ 31) ∧ ((s.ru ≤ x3 → (CtM g M_X10_amountOf [.ref x0, .int (nI x1), .int (nI x2), .int (nI 2), .int (nI 0)] x0 s (fun r s3 => ∃ v4 : Int32, r = some (.int v4) ∧ (Q (some (.int v4)) s3)))) ∧ (x3 < s.ru → ((6 * x3) < 126 ∧ (((6 * x3) + 1) < 126 ∧ (CtM g M_X10_amountOf [.ref x0, .int (nI x1), .int (nI x2), .int (s.rl (6 * x3)), .int (s.rl ((6 * x3) + 1))] x0 s (fun r s7 => ∃ v8 : Int32, r = some (.int v8) ∧ (((6 * x3) + 3) < 126 ∧ ((6 * x3) < 126 ∧ (((s7.rl (6 * x3)) = 0 → BlkM g M_X10_gradeOf x0 Q 144 [(0, .ref x0), (1, .int (nI x1)), (2, .int (nI x2)), (3, .int (nI x3)), (4, .int (nI (6 * x3))), (7, .int (nI 1))] [] s7) ∧ (¬ (s7.rl (6 * x3)) = 0 → (((6 * x3) + 2) < 126 ∧ ((¬ (s7.rl ((6 * x3) + 2)) = (nI 60) → (((6 * x3) + 2) < 126 ∧ ((¬ (s7.rl ((6 * x3) + 2)) = (nI 61) → (((6 * x3) + 2) < 126 ∧ ((¬ (s7.rl ((6 * x3) + 2)) = (nI 62) → BlkM g M_X10_gradeOf x0 Q 144 [(0, .ref x0), (1, .int (nI x1)), (2, .int (nI x2)), (3, .int (nI x3)), (4, .int (nI (6 * x3))), (7, .int (nI 0))] [] s7) ∧ ((s7.rl ((6 * x3) + 2)) = (nI 62) → ((v8 ≤ (s7.rl ((6 * x3) + 3)) → BlkM g M_X10_gradeOf x0 Q 144 [(0, .ref x0), (1, .int (nI x1)), (2, .int (nI x2)), (3, .int (nI x3)), (4, .int (nI (6 * x3))), (7, .int (nI 0))] [] s7) ∧ (¬ v8 ≤ (s7.rl ((6 * x3) + 3)) → BlkM g M_X10_gradeOf x0 Q 144 [(0, .ref x0), (1, .int (nI x1)), (2, .int (nI x2)), (3, .int (nI x3)), (4, .int (nI (6 * x3))), (7, .int (nI 1))] [] s7)))))) ∧ ((s7.rl ((6 * x3) + 2)) = (nI 61) → ((v8 = (s7.rl ((6 * x3) + 3)) → BlkM g M_X10_gradeOf x0 Q 144 [(0, .ref x0), (1, .int (nI x1)), (2, .int (nI x2)), (3, .int (nI x3)), (4, .int (nI (6 * x3))), (7, .int (nI 1))] [] s7) ∧ (¬ v8 = (s7.rl ((6 * x3) + 3)) → (((6 * x3) + 2) < 126 ∧ ((¬ (s7.rl ((6 * x3) + 2)) = (nI 62) → BlkM g M_X10_gradeOf x0 Q 144 [(0, .ref x0), (1, .int (nI x1)), (2, .int (nI x2)), (3, .int (nI x3)), (4, .int (nI (6 * x3))), (7, .int (nI 0))] [] s7) ∧ ((s7.rl ((6 * x3) + 2)) = (nI 62) → ((v8 ≤ (s7.rl ((6 * x3) + 3)) → BlkM g M_X10_gradeOf x0 Q 144 [(0, .ref x0), (1, .int (nI x1)), (2, .int (nI x2)), (3, .int (nI x3)), (4, .int (nI (6 * x3))), (7, .int (nI 0))] [] s7) ∧ (¬ v8 ≤ (s7.rl ((6 * x3) + 3)) → BlkM g M_X10_gradeOf x0 Q 144 [(0, .ref x0), (1, .int (nI x1)), (2, .int (nI x2)), (3, .int (nI x3)), (4, .int (nI (6 * x3))), (7, .int (nI 1))] [] s7))))))))))) ∧ ((s7.rl ((6 * x3) + 2)) = (nI 60) → ((v8 < (s7.rl ((6 * x3) + 3)) → BlkM g M_X10_gradeOf x0 Q 144 [(0, .ref x0), (1, .int (nI x1)), (2, .int (nI x2)), (3, .int (nI x3)), (4, .int (nI (6 * x3))), (7, .int (nI 1))] [] s7) ∧ (¬ v8 < (s7.rl ((6 * x3) + 3)) → (((6 * x3) + 2) < 126 ∧ ((¬ (s7.rl ((6 * x3) + 2)) = (nI 61) → (((6 * x3) + 2) < 126 ∧ ((¬ (s7.rl ((6 * x3) + 2)) = (nI 62) → BlkM g M_X10_gradeOf x0 Q 144 [(0, .ref x0), (1, .int (nI x1)), (2, .int (nI x2)), (3, .int (nI x3)), (4, .int (nI (6 * x3))), (7, .int (nI 0))] [] s7) ∧ ((s7.rl ((6 * x3) + 2)) = (nI 62) → ((v8 ≤ (s7.rl ((6 * x3) + 3)) → BlkM g M_X10_gradeOf x0 Q 144 [(0, .ref x0), (1, .int (nI x1)), (2, .int (nI x2)), (3, .int (nI x3)), (4, .int (nI (6 * x3))), (7, .int (nI 0))] [] s7) ∧ (¬ v8 ≤ (s7.rl ((6 * x3) + 3)) → BlkM g M_X10_gradeOf x0 Q 144 [(0, .ref x0), (1, .int (nI x1)), (2, .int (nI x2)), (3, .int (nI x3)), (4, .int (nI (6 * x3))), (7, .int (nI 1))] [] s7)))))) ∧ ((s7.rl ((6 * x3) + 2)) = (nI 61) → ((v8 = (s7.rl ((6 * x3) + 3)) → BlkM g M_X10_gradeOf x0 Q 144 [(0, .ref x0), (1, .int (nI x1)), (2, .int (nI x2)), (3, .int (nI x3)), (4, .int (nI (6 * x3))), (7, .int (nI 1))] [] s7) ∧ (¬ v8 = (s7.rl ((6 * x3) + 3)) → (((6 * x3) + 2) < 126 ∧ ((¬ (s7.rl ((6 * x3) + 2)) = (nI 62) → BlkM g M_X10_gradeOf x0 Q 144 [(0, .ref x0), (1, .int (nI x1)), (2, .int (nI x2)), (3, .int (nI x3)), (4, .int (nI (6 * x3))), (7, .int (nI 0))] [] s7) ∧ ((s7.rl ((6 * x3) + 2)) = (nI 62) → ((v8 ≤ (s7.rl ((6 * x3) + 3)) → BlkM g M_X10_gradeOf x0 Q 144 [(0, .ref x0), (1, .int (nI x1)), (2, .int (nI x2)), (3, .int (nI x3)), (4, .int (nI (6 * x3))), (7, .int (nI 0))] [] s7) ∧ (¬ v8 ≤ (s7.rl ((6 * x3) + 3)) → BlkM g M_X10_gradeOf x0 Q 144 [(0, .ref x0), (1, .int (nI x1)), (2, .int (nI x2)), (3, .int (nI x3)), (4, .int (nI (6 * x3))), (7, .int (nI 1))] [] s7))))))))))))))))))))))))))) : BlkM g M_X10_gradeOf x0 Q 15 [(0, .ref x0), (1, .int (nI x1)), (2, .int (nI x2)), (3, .int (nI x3))] [] s := by
  intro h0 h nx HO HM
  refine r_iload_n 3 dX10_gradeOf_15 rfl rfl ?_
  refine r_aload_n 0 dX10_gradeOf_16 rfl rfl ?_
  refine r_getf (ci := 11) (kf := 11) (T := TX10) rfl in_X10 (by decide) wF_X10_79 dX10_gradeOf_17 (MAt.o_ HM) rfl ?_
  obtain ⟨c, V⟩ := V
  refine r_icmp_geN (tgt := 218) dX10_gradeOf_20 (by decide) c (fun c => ?_) (fun c => ?_)
  · have V := V.1 c
    refine r_aload_n 0 dX10_gradeOf_218 rfl rfl ?_
    refine r_iload_n 1 dX10_gradeOf_219 rfl rfl ?_
    refine r_iload_n 2 dX10_gradeOf_220 rfl rfl ?_
    refine r_iconst (v := (nI 2)) dX10_gradeOf_221 rfl ?_
    refine r_iconst (v := (nI 0)) dX10_gradeOf_222 rfl ?_
    refine r_callV (M2 := M_X10_amountOf) (ci := 11) (n := 4) (As := [.int (nI x1), .int (nI x2), .int (nI 2), .int (nI 0)]) rfl (wl5 wM_X10_176 wi_X10_amountOf wS_X10_amountOf wI_StateSharesModel wc_X10_amountOf) (by decide +kernel) (by decide) rfl rfl (Nat.le_of_ble_eq_true rfl) dX10_gradeOf_223 (MAt.o_ HM) (by decide) (by decide) (Ct.imp (V _ _ HM) (fun r h1 n2 V => ?_))
    obtain ⟨rfl, Oh1, s3, HMh1, V⟩ := V
    have HOh1 := Off.tr HO Oh1
    obtain ⟨v4, rfl, V⟩ := V
    show Blk g M_X10_gradeOf (pM x0 h0 nx Q) 226 [(0, .ref x0), (1, .int (nI x1)), (2, .int (nI x2)), (3, .int (nI x3))] [.int v4] h1 nx 0 0
    exact r_iret dX10_gradeOf_226 rfl (by decide) (by decide) ⟨rfl, HOh1, _, HMh1, V⟩
  · have V := V.2 c
    refine r_bipush (v := (nI 6)) dX10_gradeOf_23 rfl ?_
    refine r_iload_n 3 dX10_gradeOf_25 rfl rfl ?_
    refine r_imulN dX10_gradeOf_26 ?_
    refine r_istore (L' := [(4, .int (nI (6 * x3))), (0, .ref x0), (1, .int (nI x1)), (2, .int (nI x2)), (3, .int (nI x3))]) dX10_gradeOf_27 (by decide) rfl ?_
    refine r_aload_n 1 dX10_gradeOf_29 rfl rfl ?_
    refine r_iload_n 2 dX10_gradeOf_30 rfl rfl ?_
    refine r_iload_n 3 dX10_gradeOf_31 rfl rfl ?_
    refine r_aload_n 1 dX10_gradeOf_32 rfl rfl ?_
    refine r_getf (ci := 11) (kf := 12) (T := TX10) rfl in_X10 (by decide) wF_X10_25 dX10_gradeOf_33 (MAt.o_ HM) rfl ?_
    refine r_iload 0 dX10_gradeOf_36 rfl ?_
    obtain ⟨c, V⟩ := V
    refine r_iald dX10_gradeOf_38 (MAt.g_rl HM) rfl c (by decide) ?_
    show Blk g M_X10_gradeOf (pM x0 h0 nx Q) 39 [(4, .int (nI (6 * x3))), (0, .ref x0), (1, .int (nI x1)), (2, .int (nI x2)), (3, .int (nI x3))] [.int (s.rl (6 * x3)), .int (nI x2), .int (nI x1), .ref x0] h nx 0 0
    refine r_aload_n 1 dX10_gradeOf_39 rfl rfl ?_
    refine r_getf (ci := 11) (kf := 12) (T := TX10) rfl in_X10 (by decide) wF_X10_25 dX10_gradeOf_40 (MAt.o_ HM) rfl ?_
    refine r_iload 0 dX10_gradeOf_43 rfl ?_
    refine r_iconst (v := (nI 1)) dX10_gradeOf_45 rfl ?_
    refine r_iaddN dX10_gradeOf_46 ?_
    obtain ⟨c, V⟩ := V
    refine r_iald dX10_gradeOf_47 (MAt.g_rl HM) rfl c (by decide) ?_
    show Blk g M_X10_gradeOf (pM x0 h0 nx Q) 48 [(4, .int (nI (6 * x3))), (0, .ref x0), (1, .int (nI x1)), (2, .int (nI x2)), (3, .int (nI x3))] [.int (s.rl ((6 * x3) + 1)), .int (s.rl (6 * x3)), .int (nI x2), .int (nI x1), .ref x0] h nx 0 0
    refine r_callV (M2 := M_X10_amountOf) (ci := 11) (n := 4) (As := [.int (nI x1), .int (nI x2), .int (s.rl (6 * x3)), .int (s.rl ((6 * x3) + 1))]) rfl (wl5 wM_X10_176 wi_X10_amountOf wS_X10_amountOf wI_StateSharesModel wc_X10_amountOf) (by decide +kernel) (by decide) rfl rfl (Nat.le_of_ble_eq_true rfl) dX10_gradeOf_48 (MAt.o_ HM) (by decide) (by decide) (Ct.imp (V _ _ HM) (fun r h5 n6 V => ?_))
    obtain ⟨rfl, Oh5, s7, HMh5, V⟩ := V
    have HOh5 := Off.tr HO Oh5
    obtain ⟨v8, rfl, V⟩ := V
    show Blk g M_X10_gradeOf (pM x0 h0 nx Q) 51 [(4, .int (nI (6 * x3))), (0, .ref x0), (1, .int (nI x1)), (2, .int (nI x2)), (3, .int (nI x3))] [.int v8] h5 nx 0 0
    refine r_istore (L' := [(5, .int v8), (4, .int (nI (6 * x3))), (0, .ref x0), (1, .int (nI x1)), (2, .int (nI x2)), (3, .int (nI x3))]) dX10_gradeOf_51 (by decide) rfl ?_
    refine r_aload_n 2 dX10_gradeOf_53 rfl rfl ?_
    refine r_getf (ci := 11) (kf := 12) (T := TX10) rfl in_X10 (by decide) wF_X10_25 dX10_gradeOf_54 (MAt.o_ HMh5) rfl ?_
    refine r_iload 1 dX10_gradeOf_57 rfl ?_
    refine r_iconst (v := (nI 3)) dX10_gradeOf_59 rfl ?_
    refine r_iaddN dX10_gradeOf_60 ?_
    obtain ⟨c, V⟩ := V
    refine r_iald dX10_gradeOf_61 (MAt.g_rl HMh5) rfl c (by decide) ?_
    show Blk g M_X10_gradeOf (pM x0 h0 nx Q) 62 [(5, .int v8), (4, .int (nI (6 * x3))), (0, .ref x0), (1, .int (nI x1)), (2, .int (nI x2)), (3, .int (nI x3))] [.int (s7.rl ((6 * x3) + 3))] h5 nx 0 0
    refine r_istore (L' := [(6, .int (s7.rl ((6 * x3) + 3))), (5, .int v8), (4, .int (nI (6 * x3))), (0, .ref x0), (1, .int (nI x1)), (2, .int (nI x2)), (3, .int (nI x3))]) dX10_gradeOf_62 (by decide) rfl ?_
    refine r_aload_n 3 dX10_gradeOf_64 rfl rfl ?_
    refine r_getf (ci := 11) (kf := 12) (T := TX10) rfl in_X10 (by decide) wF_X10_25 dX10_gradeOf_65 (MAt.o_ HMh5) rfl ?_
    refine r_iload 2 dX10_gradeOf_68 rfl ?_
    obtain ⟨c, V⟩ := V
    refine r_iald dX10_gradeOf_70 (MAt.g_rl HMh5) rfl c (by decide) ?_
    show Blk g M_X10_gradeOf (pM x0 h0 nx Q) 71 [(6, .int (s7.rl ((6 * x3) + 3))), (5, .int v8), (4, .int (nI (6 * x3))), (0, .ref x0), (1, .int (nI x1)), (2, .int (nI x2)), (3, .int (nI x3))] [.int (s7.rl (6 * x3))] h5 nx 0 0
    refine r_if_eq (tgt := 137) dX10_gradeOf_71 (by decide) (fun c => ?_) (fun c => ?_)
    · have V := V.1 c
      refine r_iconst (v := (nI 1)) dX10_gradeOf_137 rfl ?_
      refine r_goto (tgt := 142) dX10_gradeOf_138 (by decide) ?_
      refine r_istore (L' := [(7, .int (nI 1)), (6, .int (s7.rl ((6 * x3) + 3))), (5, .int v8), (4, .int (nI (6 * x3))), (0, .ref x0), (1, .int (nI x1)), (2, .int (nI x2)), (3, .int (nI x3))]) dX10_gradeOf_142 (by decide) rfl ?_
      exact Blk.sub [4, 5, 6, 7, 3, 0] rfl (V _ _ _ HOh5 HMh5)
    · have V := V.2 c
      refine r_aload_n 3 dX10_gradeOf_74 rfl rfl ?_
      refine r_getf (ci := 11) (kf := 12) (T := TX10) rfl in_X10 (by decide) wF_X10_25 dX10_gradeOf_75 (MAt.o_ HMh5) rfl ?_
      refine r_iload 2 dX10_gradeOf_78 rfl ?_
      refine r_iconst (v := (nI 2)) dX10_gradeOf_80 rfl ?_
      refine r_iaddN dX10_gradeOf_81 ?_
      obtain ⟨c, V⟩ := V
      refine r_iald dX10_gradeOf_82 (MAt.g_rl HMh5) rfl c (by decide) ?_
      show Blk g M_X10_gradeOf (pM x0 h0 nx Q) 83 [(6, .int (s7.rl ((6 * x3) + 3))), (5, .int v8), (4, .int (nI (6 * x3))), (0, .ref x0), (1, .int (nI x1)), (2, .int (nI x2)), (3, .int (nI x3))] [.int (s7.rl ((6 * x3) + 2))] h5 nx 0 0
      refine r_bipush (v := (nI 60)) dX10_gradeOf_83 rfl ?_
      refine r_icmp_ne (tgt := 95) dX10_gradeOf_85 (by decide) (fun c => ?_) (fun c => ?_)
      · have V := V.1 c
        refine r_aload_n 3 dX10_gradeOf_95 rfl rfl ?_
        refine r_getf (ci := 11) (kf := 12) (T := TX10) rfl in_X10 (by decide) wF_X10_25 dX10_gradeOf_96 (MAt.o_ HMh5) rfl ?_
        refine r_iload 2 dX10_gradeOf_99 rfl ?_
        refine r_iconst (v := (nI 2)) dX10_gradeOf_101 rfl ?_
        refine r_iaddN dX10_gradeOf_102 ?_
        obtain ⟨c, V⟩ := V
        refine r_iald dX10_gradeOf_103 (MAt.g_rl HMh5) rfl c (by decide) ?_
        show Blk g M_X10_gradeOf (pM x0 h0 nx Q) 104 [(6, .int (s7.rl ((6 * x3) + 3))), (5, .int v8), (4, .int (nI (6 * x3))), (0, .ref x0), (1, .int (nI x1)), (2, .int (nI x2)), (3, .int (nI x3))] [.int (s7.rl ((6 * x3) + 2))] h5 nx 0 0
        refine r_bipush (v := (nI 61)) dX10_gradeOf_104 rfl ?_
        refine r_icmp_ne (tgt := 116) dX10_gradeOf_106 (by decide) (fun c => ?_) (fun c => ?_)
        · have V := V.1 c
          refine r_aload_n 3 dX10_gradeOf_116 rfl rfl ?_
          refine r_getf (ci := 11) (kf := 12) (T := TX10) rfl in_X10 (by decide) wF_X10_25 dX10_gradeOf_117 (MAt.o_ HMh5) rfl ?_
          refine r_iload 2 dX10_gradeOf_120 rfl ?_
          refine r_iconst (v := (nI 2)) dX10_gradeOf_122 rfl ?_
          refine r_iaddN dX10_gradeOf_123 ?_
          obtain ⟨c, V⟩ := V
          refine r_iald dX10_gradeOf_124 (MAt.g_rl HMh5) rfl c (by decide) ?_
          show Blk g M_X10_gradeOf (pM x0 h0 nx Q) 125 [(6, .int (s7.rl ((6 * x3) + 3))), (5, .int v8), (4, .int (nI (6 * x3))), (0, .ref x0), (1, .int (nI x1)), (2, .int (nI x2)), (3, .int (nI x3))] [.int (s7.rl ((6 * x3) + 2))] h5 nx 0 0
          refine r_bipush (v := (nI 62)) dX10_gradeOf_125 rfl ?_
          refine r_icmp_ne (tgt := 141) dX10_gradeOf_127 (by decide) (fun c => ?_) (fun c => ?_)
          · have V := V.1 c
            refine r_iconst (v := (nI 0)) dX10_gradeOf_141 rfl ?_
            refine r_istore (L' := [(7, .int (nI 0)), (6, .int (s7.rl ((6 * x3) + 3))), (5, .int v8), (4, .int (nI (6 * x3))), (0, .ref x0), (1, .int (nI x1)), (2, .int (nI x2)), (3, .int (nI x3))]) dX10_gradeOf_142 (by decide) rfl ?_
            exact Blk.sub [4, 5, 6, 7, 3, 0] rfl (V _ _ _ HOh5 HMh5)
          · have V := V.2 c
            refine r_iload 1 dX10_gradeOf_130 rfl ?_
            refine r_iload 0 dX10_gradeOf_132 rfl ?_
            refine r_icmp_le (tgt := 141) dX10_gradeOf_134 (by decide) (fun c => ?_) (fun c => ?_)
            · have V := V.1 c
              refine r_iconst (v := (nI 0)) dX10_gradeOf_141 rfl ?_
              refine r_istore (L' := [(7, .int (nI 0)), (6, .int (s7.rl ((6 * x3) + 3))), (5, .int v8), (4, .int (nI (6 * x3))), (0, .ref x0), (1, .int (nI x1)), (2, .int (nI x2)), (3, .int (nI x3))]) dX10_gradeOf_142 (by decide) rfl ?_
              exact Blk.sub [4, 5, 6, 7, 3, 0] rfl (V _ _ _ HOh5 HMh5)
            · have V := V.2 c
              refine r_iconst (v := (nI 1)) dX10_gradeOf_137 rfl ?_
              refine r_goto (tgt := 142) dX10_gradeOf_138 (by decide) ?_
              refine r_istore (L' := [(7, .int (nI 1)), (6, .int (s7.rl ((6 * x3) + 3))), (5, .int v8), (4, .int (nI (6 * x3))), (0, .ref x0), (1, .int (nI x1)), (2, .int (nI x2)), (3, .int (nI x3))]) dX10_gradeOf_142 (by decide) rfl ?_
              exact Blk.sub [4, 5, 6, 7, 3, 0] rfl (V _ _ _ HOh5 HMh5)
        · have V := V.2 c
          refine r_iload 1 dX10_gradeOf_109 rfl ?_
          refine r_iload 0 dX10_gradeOf_111 rfl ?_
          refine r_icmp_eq (tgt := 137) dX10_gradeOf_113 (by decide) (fun c => ?_) (fun c => ?_)
          · have V := V.1 c
            refine r_iconst (v := (nI 1)) dX10_gradeOf_137 rfl ?_
            refine r_goto (tgt := 142) dX10_gradeOf_138 (by decide) ?_
            refine r_istore (L' := [(7, .int (nI 1)), (6, .int (s7.rl ((6 * x3) + 3))), (5, .int v8), (4, .int (nI (6 * x3))), (0, .ref x0), (1, .int (nI x1)), (2, .int (nI x2)), (3, .int (nI x3))]) dX10_gradeOf_142 (by decide) rfl ?_
            exact Blk.sub [4, 5, 6, 7, 3, 0] rfl (V _ _ _ HOh5 HMh5)
          · have V := V.2 c
            refine r_aload_n 3 dX10_gradeOf_116 rfl rfl ?_
            refine r_getf (ci := 11) (kf := 12) (T := TX10) rfl in_X10 (by decide) wF_X10_25 dX10_gradeOf_117 (MAt.o_ HMh5) rfl ?_
            refine r_iload 2 dX10_gradeOf_120 rfl ?_
            refine r_iconst (v := (nI 2)) dX10_gradeOf_122 rfl ?_
            refine r_iaddN dX10_gradeOf_123 ?_
            obtain ⟨c, V⟩ := V
            refine r_iald dX10_gradeOf_124 (MAt.g_rl HMh5) rfl c (by decide) ?_
            show Blk g M_X10_gradeOf (pM x0 h0 nx Q) 125 [(6, .int (s7.rl ((6 * x3) + 3))), (5, .int v8), (4, .int (nI (6 * x3))), (0, .ref x0), (1, .int (nI x1)), (2, .int (nI x2)), (3, .int (nI x3))] [.int (s7.rl ((6 * x3) + 2))] h5 nx 0 0
            refine r_bipush (v := (nI 62)) dX10_gradeOf_125 rfl ?_
            refine r_icmp_ne (tgt := 141) dX10_gradeOf_127 (by decide) (fun c => ?_) (fun c => ?_)
            · have V := V.1 c
              refine r_iconst (v := (nI 0)) dX10_gradeOf_141 rfl ?_
              refine r_istore (L' := [(7, .int (nI 0)), (6, .int (s7.rl ((6 * x3) + 3))), (5, .int v8), (4, .int (nI (6 * x3))), (0, .ref x0), (1, .int (nI x1)), (2, .int (nI x2)), (3, .int (nI x3))]) dX10_gradeOf_142 (by decide) rfl ?_
              exact Blk.sub [4, 5, 6, 7, 3, 0] rfl (V _ _ _ HOh5 HMh5)
            · have V := V.2 c
              refine r_iload 1 dX10_gradeOf_130 rfl ?_
              refine r_iload 0 dX10_gradeOf_132 rfl ?_
              refine r_icmp_le (tgt := 141) dX10_gradeOf_134 (by decide) (fun c => ?_) (fun c => ?_)
              · have V := V.1 c
                refine r_iconst (v := (nI 0)) dX10_gradeOf_141 rfl ?_
                refine r_istore (L' := [(7, .int (nI 0)), (6, .int (s7.rl ((6 * x3) + 3))), (5, .int v8), (4, .int (nI (6 * x3))), (0, .ref x0), (1, .int (nI x1)), (2, .int (nI x2)), (3, .int (nI x3))]) dX10_gradeOf_142 (by decide) rfl ?_
                exact Blk.sub [4, 5, 6, 7, 3, 0] rfl (V _ _ _ HOh5 HMh5)
              · have V := V.2 c
                refine r_iconst (v := (nI 1)) dX10_gradeOf_137 rfl ?_
                refine r_goto (tgt := 142) dX10_gradeOf_138 (by decide) ?_
                refine r_istore (L' := [(7, .int (nI 1)), (6, .int (s7.rl ((6 * x3) + 3))), (5, .int v8), (4, .int (nI (6 * x3))), (0, .ref x0), (1, .int (nI x1)), (2, .int (nI x2)), (3, .int (nI x3))]) dX10_gradeOf_142 (by decide) rfl ?_
                exact Blk.sub [4, 5, 6, 7, 3, 0] rfl (V _ _ _ HOh5 HMh5)
      · have V := V.2 c
        refine r_iload 1 dX10_gradeOf_88 rfl ?_
        refine r_iload 0 dX10_gradeOf_90 rfl ?_
        refine r_icmp_lt (tgt := 137) dX10_gradeOf_92 (by decide) (fun c => ?_) (fun c => ?_)
        · have V := V.1 c
          refine r_iconst (v := (nI 1)) dX10_gradeOf_137 rfl ?_
          refine r_goto (tgt := 142) dX10_gradeOf_138 (by decide) ?_
          refine r_istore (L' := [(7, .int (nI 1)), (6, .int (s7.rl ((6 * x3) + 3))), (5, .int v8), (4, .int (nI (6 * x3))), (0, .ref x0), (1, .int (nI x1)), (2, .int (nI x2)), (3, .int (nI x3))]) dX10_gradeOf_142 (by decide) rfl ?_
          exact Blk.sub [4, 5, 6, 7, 3, 0] rfl (V _ _ _ HOh5 HMh5)
        · have V := V.2 c
          refine r_aload_n 3 dX10_gradeOf_95 rfl rfl ?_
          refine r_getf (ci := 11) (kf := 12) (T := TX10) rfl in_X10 (by decide) wF_X10_25 dX10_gradeOf_96 (MAt.o_ HMh5) rfl ?_
          refine r_iload 2 dX10_gradeOf_99 rfl ?_
          refine r_iconst (v := (nI 2)) dX10_gradeOf_101 rfl ?_
          refine r_iaddN dX10_gradeOf_102 ?_
          obtain ⟨c, V⟩ := V
          refine r_iald dX10_gradeOf_103 (MAt.g_rl HMh5) rfl c (by decide) ?_
          show Blk g M_X10_gradeOf (pM x0 h0 nx Q) 104 [(6, .int (s7.rl ((6 * x3) + 3))), (5, .int v8), (4, .int (nI (6 * x3))), (0, .ref x0), (1, .int (nI x1)), (2, .int (nI x2)), (3, .int (nI x3))] [.int (s7.rl ((6 * x3) + 2))] h5 nx 0 0
          refine r_bipush (v := (nI 61)) dX10_gradeOf_104 rfl ?_
          refine r_icmp_ne (tgt := 116) dX10_gradeOf_106 (by decide) (fun c => ?_) (fun c => ?_)
          · have V := V.1 c
            refine r_aload_n 3 dX10_gradeOf_116 rfl rfl ?_
            refine r_getf (ci := 11) (kf := 12) (T := TX10) rfl in_X10 (by decide) wF_X10_25 dX10_gradeOf_117 (MAt.o_ HMh5) rfl ?_
            refine r_iload 2 dX10_gradeOf_120 rfl ?_
            refine r_iconst (v := (nI 2)) dX10_gradeOf_122 rfl ?_
            refine r_iaddN dX10_gradeOf_123 ?_
            obtain ⟨c, V⟩ := V
            refine r_iald dX10_gradeOf_124 (MAt.g_rl HMh5) rfl c (by decide) ?_
            show Blk g M_X10_gradeOf (pM x0 h0 nx Q) 125 [(6, .int (s7.rl ((6 * x3) + 3))), (5, .int v8), (4, .int (nI (6 * x3))), (0, .ref x0), (1, .int (nI x1)), (2, .int (nI x2)), (3, .int (nI x3))] [.int (s7.rl ((6 * x3) + 2))] h5 nx 0 0
            refine r_bipush (v := (nI 62)) dX10_gradeOf_125 rfl ?_
            refine r_icmp_ne (tgt := 141) dX10_gradeOf_127 (by decide) (fun c => ?_) (fun c => ?_)
            · have V := V.1 c
              refine r_iconst (v := (nI 0)) dX10_gradeOf_141 rfl ?_
              refine r_istore (L' := [(7, .int (nI 0)), (6, .int (s7.rl ((6 * x3) + 3))), (5, .int v8), (4, .int (nI (6 * x3))), (0, .ref x0), (1, .int (nI x1)), (2, .int (nI x2)), (3, .int (nI x3))]) dX10_gradeOf_142 (by decide) rfl ?_
              exact Blk.sub [4, 5, 6, 7, 3, 0] rfl (V _ _ _ HOh5 HMh5)
            · have V := V.2 c
              refine r_iload 1 dX10_gradeOf_130 rfl ?_
              refine r_iload 0 dX10_gradeOf_132 rfl ?_
              refine r_icmp_le (tgt := 141) dX10_gradeOf_134 (by decide) (fun c => ?_) (fun c => ?_)
              · have V := V.1 c
                refine r_iconst (v := (nI 0)) dX10_gradeOf_141 rfl ?_
                refine r_istore (L' := [(7, .int (nI 0)), (6, .int (s7.rl ((6 * x3) + 3))), (5, .int v8), (4, .int (nI (6 * x3))), (0, .ref x0), (1, .int (nI x1)), (2, .int (nI x2)), (3, .int (nI x3))]) dX10_gradeOf_142 (by decide) rfl ?_
                exact Blk.sub [4, 5, 6, 7, 3, 0] rfl (V _ _ _ HOh5 HMh5)
              · have V := V.2 c
                refine r_iconst (v := (nI 1)) dX10_gradeOf_137 rfl ?_
                refine r_goto (tgt := 142) dX10_gradeOf_138 (by decide) ?_
                refine r_istore (L' := [(7, .int (nI 1)), (6, .int (s7.rl ((6 * x3) + 3))), (5, .int v8), (4, .int (nI (6 * x3))), (0, .ref x0), (1, .int (nI x1)), (2, .int (nI x2)), (3, .int (nI x3))]) dX10_gradeOf_142 (by decide) rfl ?_
                exact Blk.sub [4, 5, 6, 7, 3, 0] rfl (V _ _ _ HOh5 HMh5)
          · have V := V.2 c
            refine r_iload 1 dX10_gradeOf_109 rfl ?_
            refine r_iload 0 dX10_gradeOf_111 rfl ?_
            refine r_icmp_eq (tgt := 137) dX10_gradeOf_113 (by decide) (fun c => ?_) (fun c => ?_)
            · have V := V.1 c
              refine r_iconst (v := (nI 1)) dX10_gradeOf_137 rfl ?_
              refine r_goto (tgt := 142) dX10_gradeOf_138 (by decide) ?_
              refine r_istore (L' := [(7, .int (nI 1)), (6, .int (s7.rl ((6 * x3) + 3))), (5, .int v8), (4, .int (nI (6 * x3))), (0, .ref x0), (1, .int (nI x1)), (2, .int (nI x2)), (3, .int (nI x3))]) dX10_gradeOf_142 (by decide) rfl ?_
              exact Blk.sub [4, 5, 6, 7, 3, 0] rfl (V _ _ _ HOh5 HMh5)
            · have V := V.2 c
              refine r_aload_n 3 dX10_gradeOf_116 rfl rfl ?_
              refine r_getf (ci := 11) (kf := 12) (T := TX10) rfl in_X10 (by decide) wF_X10_25 dX10_gradeOf_117 (MAt.o_ HMh5) rfl ?_
              refine r_iload 2 dX10_gradeOf_120 rfl ?_
              refine r_iconst (v := (nI 2)) dX10_gradeOf_122 rfl ?_
              refine r_iaddN dX10_gradeOf_123 ?_
              obtain ⟨c, V⟩ := V
              refine r_iald dX10_gradeOf_124 (MAt.g_rl HMh5) rfl c (by decide) ?_
              show Blk g M_X10_gradeOf (pM x0 h0 nx Q) 125 [(6, .int (s7.rl ((6 * x3) + 3))), (5, .int v8), (4, .int (nI (6 * x3))), (0, .ref x0), (1, .int (nI x1)), (2, .int (nI x2)), (3, .int (nI x3))] [.int (s7.rl ((6 * x3) + 2))] h5 nx 0 0
              refine r_bipush (v := (nI 62)) dX10_gradeOf_125 rfl ?_
              refine r_icmp_ne (tgt := 141) dX10_gradeOf_127 (by decide) (fun c => ?_) (fun c => ?_)
              · have V := V.1 c
                refine r_iconst (v := (nI 0)) dX10_gradeOf_141 rfl ?_
                refine r_istore (L' := [(7, .int (nI 0)), (6, .int (s7.rl ((6 * x3) + 3))), (5, .int v8), (4, .int (nI (6 * x3))), (0, .ref x0), (1, .int (nI x1)), (2, .int (nI x2)), (3, .int (nI x3))]) dX10_gradeOf_142 (by decide) rfl ?_
                exact Blk.sub [4, 5, 6, 7, 3, 0] rfl (V _ _ _ HOh5 HMh5)
              · have V := V.2 c
                refine r_iload 1 dX10_gradeOf_130 rfl ?_
                refine r_iload 0 dX10_gradeOf_132 rfl ?_
                refine r_icmp_le (tgt := 141) dX10_gradeOf_134 (by decide) (fun c => ?_) (fun c => ?_)
                · have V := V.1 c
                  refine r_iconst (v := (nI 0)) dX10_gradeOf_141 rfl ?_
                  refine r_istore (L' := [(7, .int (nI 0)), (6, .int (s7.rl ((6 * x3) + 3))), (5, .int v8), (4, .int (nI (6 * x3))), (0, .ref x0), (1, .int (nI x1)), (2, .int (nI x2)), (3, .int (nI x3))]) dX10_gradeOf_142 (by decide) rfl ?_
                  exact Blk.sub [4, 5, 6, 7, 3, 0] rfl (V _ _ _ HOh5 HMh5)
                · have V := V.2 c
                  refine r_iconst (v := (nI 1)) dX10_gradeOf_137 rfl ?_
                  refine r_goto (tgt := 142) dX10_gradeOf_138 (by decide) ?_
                  refine r_istore (L' := [(7, .int (nI 1)), (6, .int (s7.rl ((6 * x3) + 3))), (5, .int v8), (4, .int (nI (6 * x3))), (0, .ref x0), (1, .int (nI x1)), (2, .int (nI x2)), (3, .int (nI x3))]) dX10_gradeOf_142 (by decide) rfl ?_
                  exact Blk.sub [4, 5, 6, 7, 3, 0] rfl (V _ _ _ HOh5 HMh5)
set_option maxRecDepth 20000 in
theorem v_X10_gradeOf_144 {g : xG} {Q : mQ} {s : MV} {x0 : Nat} {x1 : Nat} {x2 : Nat} {x3 : Nat} {x4 : Nat} {x7 : Nat} (V : (x7 < 2 ^ 31 ∧ ((x7 = 0 → BlkM g M_X10_gradeOf x0 Q 15 [(0, .ref x0), (1, .int (nI x1)), (2, .int (nI x2)), (3, .int (nI (x3 + 1)))] [] s) ∧ (¬ x7 = 0 → ((x4 + 4) < 126 ∧ ((¬ (s.rl (x4 + 4)) = 0 → ((x4 + 4) < 126 ∧ ((¬ (s.rl (x4 + 4)) = (nI 5) → ((x4 + 4) < 126 ∧ (CtM g M_X10_amountOf [.ref x0, .int (nI x1), .int (nI x2), .int (s.rl (x4 + 4)), .int (nI 0)] x0 s (fun r s3 => ∃ v4 : Int32, r = some (.int v4) ∧ (Q (some (.int v4)) s3))))) ∧ ((s.rl (x4 + 4)) = (nI 5) → (CtM g M_X10_middleOf [.ref x0, .int (nI x1), .int (nI x2)] x0 s (fun r s7 => ∃ v8 : Int32, r = some (.int v8) ∧ (Q (some (.int v8)) s7))))))) ∧ ((s.rl (x4 + 4)) = 0 → ((x4 + 5) < 126 ∧ (Q (some (.int (s.rl (x4 + 5)))) s))))))))) : BlkM g M_X10_gradeOf x0 Q 144 [(0, .ref x0), (1, .int (nI x1)), (2, .int (nI x2)), (3, .int (nI x3)), (4, .int (nI x4)), (7, .int (nI x7))] [] s := by
  intro h0 h nx HO HM
  refine r_iload 5 dX10_gradeOf_144 rfl ?_
  obtain ⟨c, V⟩ := V
  refine r_if_eqN (tgt := 212) dX10_gradeOf_146 (by decide) c (fun c => ?_) (fun c => ?_)
  · have V := V.1 c
    refine r_iincN 3 (b := 1) (L' := [(3, .int (nI (x3 + 1))), (0, .ref x0), (1, .int (nI x1)), (2, .int (nI x2)), (4, .int (nI x4)), (7, .int (nI x7))]) dX10_gradeOf_212 rfl rfl (by decide) rfl ?_
    refine r_goto (tgt := 15) dX10_gradeOf_215 (by decide) ?_
    exact Blk.sub [1, 2, 3, 0] rfl (V _ _ _ HO HM)
  · have V := V.2 c
    refine r_aload_n 0 dX10_gradeOf_149 rfl rfl ?_
    refine r_getf (ci := 11) (kf := 12) (T := TX10) rfl in_X10 (by decide) wF_X10_25 dX10_gradeOf_150 (MAt.o_ HM) rfl ?_
    refine r_iload 4 dX10_gradeOf_153 rfl ?_
    refine r_iconst (v := (nI 4)) dX10_gradeOf_155 rfl ?_
    refine r_iaddN dX10_gradeOf_156 ?_
    obtain ⟨c, V⟩ := V
    refine r_iald dX10_gradeOf_157 (MAt.g_rl HM) rfl c (by decide) ?_
    show Blk g M_X10_gradeOf (pM x0 h0 nx Q) 158 [(0, .ref x0), (1, .int (nI x1)), (2, .int (nI x2)), (3, .int (nI x3)), (4, .int (nI x4)), (7, .int (nI x7))] [.int (s.rl (x4 + 4))] h nx 0 0
    refine r_if_ne (tgt := 173) dX10_gradeOf_158 (by decide) (fun c => ?_) (fun c => ?_)
    · have V := V.1 c
      refine r_aload_n 0 dX10_gradeOf_173 rfl rfl ?_
      refine r_getf (ci := 11) (kf := 12) (T := TX10) rfl in_X10 (by decide) wF_X10_25 dX10_gradeOf_174 (MAt.o_ HM) rfl ?_
      refine r_iload 4 dX10_gradeOf_177 rfl ?_
      refine r_iconst (v := (nI 4)) dX10_gradeOf_179 rfl ?_
      refine r_iaddN dX10_gradeOf_180 ?_
      obtain ⟨c, V⟩ := V
      refine r_iald dX10_gradeOf_181 (MAt.g_rl HM) rfl c (by decide) ?_
      show Blk g M_X10_gradeOf (pM x0 h0 nx Q) 182 [(0, .ref x0), (1, .int (nI x1)), (2, .int (nI x2)), (3, .int (nI x3)), (4, .int (nI x4)), (7, .int (nI x7))] [.int (s.rl (x4 + 4))] h nx 0 0
      refine r_iconst (v := (nI 5)) dX10_gradeOf_182 rfl ?_
      refine r_icmp_ne (tgt := 195) dX10_gradeOf_183 (by decide) (fun c => ?_) (fun c => ?_)
      · have V := V.1 c
        refine r_aload_n 0 dX10_gradeOf_195 rfl rfl ?_
        refine r_iload_n 1 dX10_gradeOf_196 rfl rfl ?_
        refine r_iload_n 2 dX10_gradeOf_197 rfl rfl ?_
        refine r_aload_n 0 dX10_gradeOf_198 rfl rfl ?_
        refine r_getf (ci := 11) (kf := 12) (T := TX10) rfl in_X10 (by decide) wF_X10_25 dX10_gradeOf_199 (MAt.o_ HM) rfl ?_
        refine r_iload 4 dX10_gradeOf_202 rfl ?_
        refine r_iconst (v := (nI 4)) dX10_gradeOf_204 rfl ?_
        refine r_iaddN dX10_gradeOf_205 ?_
        obtain ⟨c, V⟩ := V
        refine r_iald dX10_gradeOf_206 (MAt.g_rl HM) rfl c (by decide) ?_
        show Blk g M_X10_gradeOf (pM x0 h0 nx Q) 207 [(0, .ref x0), (1, .int (nI x1)), (2, .int (nI x2)), (3, .int (nI x3)), (4, .int (nI x4)), (7, .int (nI x7))] [.int (s.rl (x4 + 4)), .int (nI x2), .int (nI x1), .ref x0] h nx 0 0
        refine r_iconst (v := (nI 0)) dX10_gradeOf_207 rfl ?_
        refine r_callV (M2 := M_X10_amountOf) (ci := 11) (n := 4) (As := [.int (nI x1), .int (nI x2), .int (s.rl (x4 + 4)), .int (nI 0)]) rfl (wl5 wM_X10_176 wi_X10_amountOf wS_X10_amountOf wI_StateSharesModel wc_X10_amountOf) (by decide +kernel) (by decide) rfl rfl (Nat.le_of_ble_eq_true rfl) dX10_gradeOf_208 (MAt.o_ HM) (by decide) (by decide) (Ct.imp (V _ _ HM) (fun r h1 n2 V => ?_))
        obtain ⟨rfl, Oh1, s3, HMh1, V⟩ := V
        have HOh1 := Off.tr HO Oh1
        obtain ⟨v4, rfl, V⟩ := V
        show Blk g M_X10_gradeOf (pM x0 h0 nx Q) 211 [(0, .ref x0), (1, .int (nI x1)), (2, .int (nI x2)), (3, .int (nI x3)), (4, .int (nI x4)), (7, .int (nI x7))] [.int v4] h1 nx 0 0
        exact r_iret dX10_gradeOf_211 rfl (by decide) (by decide) ⟨rfl, HOh1, _, HMh1, V⟩
      · have V := V.2 c
        refine r_aload_n 0 dX10_gradeOf_186 rfl rfl ?_
        refine r_iload_n 1 dX10_gradeOf_187 rfl rfl ?_
        refine r_iload_n 2 dX10_gradeOf_188 rfl rfl ?_
        refine r_callV (M2 := M_X10_middleOf) (ci := 11) (n := 2) (As := [.int (nI x1), .int (nI x2)]) rfl (wl5 wM_X10_180 wi_X10_middleOf wS_X10_middleOf wI_StateSharesModel wc_X10_middleOf) (by decide +kernel) (by decide) rfl rfl (Nat.le_of_ble_eq_true rfl) dX10_gradeOf_189 (MAt.o_ HM) (by decide) (by decide) (Ct.imp (V _ _ HM) (fun r h5 n6 V => ?_))
        obtain ⟨rfl, Oh5, s7, HMh5, V⟩ := V
        have HOh5 := Off.tr HO Oh5
        obtain ⟨v8, rfl, V⟩ := V
        show Blk g M_X10_gradeOf (pM x0 h0 nx Q) 192 [(0, .ref x0), (1, .int (nI x1)), (2, .int (nI x2)), (3, .int (nI x3)), (4, .int (nI x4)), (7, .int (nI x7))] [.int v8] h5 nx 0 0
        refine r_goto (tgt := 211) dX10_gradeOf_192 (by decide) ?_
        exact r_iret dX10_gradeOf_211 rfl (by decide) (by decide) ⟨rfl, HOh5, _, HMh5, V⟩
    · have V := V.2 c
      refine r_aload_n 0 dX10_gradeOf_161 rfl rfl ?_
      refine r_getf (ci := 11) (kf := 12) (T := TX10) rfl in_X10 (by decide) wF_X10_25 dX10_gradeOf_162 (MAt.o_ HM) rfl ?_
      refine r_iload 4 dX10_gradeOf_165 rfl ?_
      refine r_iconst (v := (nI 5)) dX10_gradeOf_167 rfl ?_
      refine r_iaddN dX10_gradeOf_168 ?_
      obtain ⟨c, V⟩ := V
      refine r_iald dX10_gradeOf_169 (MAt.g_rl HM) rfl c (by decide) ?_
      show Blk g M_X10_gradeOf (pM x0 h0 nx Q) 170 [(0, .ref x0), (1, .int (nI x1)), (2, .int (nI x2)), (3, .int (nI x3)), (4, .int (nI x4)), (7, .int (nI x7))] [.int (s.rl (x4 + 5))] h nx 0 0
      refine r_goto (tgt := 211) dX10_gradeOf_170 (by decide) ?_
      exact r_iret dX10_gradeOf_211 rfl (by decide) (by decide) ⟨rfl, HO, _, HM, V⟩
set_option maxRecDepth 20000 in
theorem v_X10_graded_0 {g : xG} {Q : mQ} {s : MV} {x0 : Nat} {x1 : Int32} {x2 : Int32} (V : (CtM g M_X10_isPlace [.ref x0, .int x1, .int x2] x0 (MV.u_cd s 0) (fun r s4 => ∃ v5 : Nat, r = some (.int (nI v5)) ∧ (v5 < 2 ^ 31 ∧ ((v5 = 0 → (Q (some (.int (-1))) s4)) ∧ (¬ v5 = 0 → (CtM g M_X10_gradeOf [.ref x0, .int x1, .int x2] x0 s4 (fun r s8 => ∃ v9 : Int32, r = some (.int v9) ∧ (Q (some (.int v9)) s8))))))))) : BlkM g M_X10_graded x0 Q 0 [(0, .ref x0), (1, .int x1), (2, .int x2)] [] s := by
  intro h0 h nx HO HM
  refine r_aload_n 0 dX10_graded_0 rfl rfl ?_
  refine r_iconst (v := (nI 0)) dX10_graded_1 rfl ?_
  refine r_putf (ci := 11) (kf := 0) (T := TX10) rfl in_X10 tyX10_ok nmX10 (by decide) wF_X10_91 rfl (tyX10_ok 0 (by decide)) dX10_graded_2 (MAt.o_ HM) (Nat.le_of_ble_eq_true rfl) rfl rfl ?_
  obtain ⟨hu1, eu1, HMu1, HOu1⟩ := mo_o HM HO 0 s.n s.sz s.wn s.at_ s.wr s.ru s.dn s.lm s.st s.fr s.up
  refine Blk.eqs ?_ rfl rfl eu1
  replace HMu1 : MAt hu1 x0 (MV.u_cd s 0) := HMu1
  show Blk g M_X10_graded (pM x0 h0 nx Q) 5 [(0, .ref x0), (1, .int x1), (2, .int x2)] [] hu1 nx 0 0
  refine r_aload_n 0 dX10_graded_5 rfl rfl ?_
  refine r_iload_n 1 dX10_graded_6 rfl rfl ?_
  refine r_iload_n 2 dX10_graded_7 rfl rfl ?_
  refine r_callV (M2 := M_X10_isPlace) (ci := 11) (n := 2) (As := [.int x1, .int x2]) rfl (wl5 wM_X10_102 wi_X10_isPlace wS_X10_isPlace wI_StateSharesModel wc_X10_isPlace) (by decide +kernel) (by decide) rfl rfl (Nat.le_of_ble_eq_true rfl) dX10_graded_8 (MAt.o_ HMu1) (by decide) (by decide) (Ct.imp (V _ _ HMu1) (fun r h2 n3 V => ?_))
  obtain ⟨rfl, Oh2, s4, HMh2, V⟩ := V
  have HOh2 := Off.tr HOu1 Oh2
  obtain ⟨v5, rfl, V⟩ := V
  show Blk g M_X10_graded (pM x0 h0 nx Q) 11 [(0, .ref x0), (1, .int x1), (2, .int x2)] [.int (nI v5)] h2 nx 0 0
  obtain ⟨c, V⟩ := V
  refine r_if_eqN (tgt := 23) dX10_graded_11 (by decide) c (fun c => ?_) (fun c => ?_)
  · have V := V.1 c
    refine r_iconst (v := (-1)) dX10_graded_23 rfl ?_
    exact r_iret dX10_graded_24 rfl (by decide) (by decide) ⟨rfl, HOh2, _, HMh2, V⟩
  · have V := V.2 c
    refine r_aload_n 0 dX10_graded_14 rfl rfl ?_
    refine r_iload_n 1 dX10_graded_15 rfl rfl ?_
    refine r_iload_n 2 dX10_graded_16 rfl rfl ?_
    refine r_callV (M2 := M_X10_gradeOf) (ci := 11) (n := 2) (As := [.int x1, .int x2]) rfl (wl5 wM_X10_184 wi_X10_gradeOf wS_X10_gradeOf wI_StateSharesModel wc_X10_gradeOf) (by decide +kernel) (by decide) rfl rfl (Nat.le_of_ble_eq_true rfl) dX10_graded_17 (MAt.o_ HMh2) (by decide) (by decide) (Ct.imp (V _ _ HMh2) (fun r h6 n7 V => ?_))
    obtain ⟨rfl, Oh6, s8, HMh6, V⟩ := V
    have HOh6 := Off.tr HOh2 Oh6
    obtain ⟨v9, rfl, V⟩ := V
    show Blk g M_X10_graded (pM x0 h0 nx Q) 20 [(0, .ref x0), (1, .int x1), (2, .int x2)] [.int v9] h6 nx 0 0
    refine r_goto (tgt := 24) dX10_graded_20 (by decide) ?_
    exact r_iret dX10_graded_24 rfl (by decide) (by decide) ⟨rfl, HOh6, _, HMh6, V⟩
set_option maxRecDepth 20000 in
theorem v_X10_missing_0 {g : xG} {Q : mQ} {s : MV} {x0 : Nat} {x1 : Int32} (V : BlkM g M_X10_missing x0 Q 9 [(0, .ref x0), (1, .int x1), (2, .int (nI 0)), (3, .int (nI 0))] [] (MV.u_cd s 0)) : BlkM g M_X10_missing x0 Q 0 [(0, .ref x0), (1, .int x1)] [] s := by
  intro h0 h nx HO HM
  refine r_aload_n 0 dX10_missing_0 rfl rfl ?_
  refine r_iconst (v := (nI 0)) dX10_missing_1 rfl ?_
  refine r_putf (ci := 11) (kf := 0) (T := TX10) rfl in_X10 tyX10_ok nmX10 (by decide) wF_X10_91 rfl (tyX10_ok 0 (by decide)) dX10_missing_2 (MAt.o_ HM) (Nat.le_of_ble_eq_true rfl) rfl rfl ?_
  obtain ⟨hu1, eu1, HMu1, HOu1⟩ := mo_o HM HO 0 s.n s.sz s.wn s.at_ s.wr s.ru s.dn s.lm s.st s.fr s.up
  refine Blk.eqs ?_ rfl rfl eu1
  replace HMu1 : MAt hu1 x0 (MV.u_cd s 0) := HMu1
  show Blk g M_X10_missing (pM x0 h0 nx Q) 5 [(0, .ref x0), (1, .int x1)] [] hu1 nx 0 0
  refine r_iconst (v := (nI 0)) dX10_missing_5 rfl ?_
  refine r_istore_n (L' := [(2, .int (nI 0)), (0, .ref x0), (1, .int x1)]) dX10_missing_6 rfl (by decide) rfl ?_
  refine r_iconst (v := (nI 0)) dX10_missing_7 rfl ?_
  refine r_istore_n (L' := [(3, .int (nI 0)), (2, .int (nI 0)), (0, .ref x0), (1, .int x1)]) dX10_missing_8 rfl (by decide) rfl ?_
  exact Blk.sub [2, 3, 1, 0] rfl (V _ _ _ HOu1 HMu1)
set_option maxRecDepth 20000 in
theorem v_X10_missing_9 {g : xG} {Q : mQ} {s : MV} {x0 : Nat} {x1 : Int32} {x2 : Nat} {x3 : Nat} (V : ((x3 < 2 ^ 31 ∧ 10 < 2 ^ 31) ∧ ((10 ≤ x3 → (Q (some (.int (-1))) s)) ∧ (x3 < 10 → BlkM g M_X10_missing x0 Q 18 [(0, .ref x0), (1, .int x1), (2, .int (nI x2)), (3, .int (nI x3)), (4, .int (nI 0))] [] s)))) : BlkM g M_X10_missing x0 Q 9 [(0, .ref x0), (1, .int x1), (2, .int (nI x2)), (3, .int (nI x3))] [] s := by
  intro h0 h nx HO HM
  refine r_iload_n 3 dX10_missing_9 rfl rfl ?_
  refine r_bipush (v := (nI 10)) dX10_missing_10 rfl ?_
  obtain ⟨c, V⟩ := V
  refine r_icmp_geN (tgt := 162) dX10_missing_12 (by decide) c (fun c => ?_) (fun c => ?_)
  · have V := V.1 c
    refine r_iconst (v := (-1)) dX10_missing_162 rfl ?_
    exact r_iret dX10_missing_163 rfl (by decide) (by decide) ⟨rfl, HO, _, HM, V⟩
  · have V := V.2 c
    refine r_iconst (v := (nI 0)) dX10_missing_15 rfl ?_
    refine r_istore (L' := [(4, .int (nI 0)), (0, .ref x0), (1, .int x1), (2, .int (nI x2)), (3, .int (nI x3))]) dX10_missing_16 (by decide) rfl ?_
    exact Blk.sub [1, 2, 3, 4, 0] rfl (V _ _ _ HO HM)
set_option maxRecDepth 20000 in
theorem v_X10_missing_18 {g : xG} {Q : mQ} {s : MV} {x0 : Nat} {x1 : Int32} {x2 : Nat} {x3 : Nat} {x4 : Nat} (V : ((x4 < 2 ^ 31 ∧ 12 < 2 ^ 31) ∧ ((12 ≤ x4 → BlkM g M_X10_missing x0 Q 9 [(0, .ref x0), (1, .int x1), (2, .int (nI x2)), (3, .int (nI (x3 + 1)))] [] s) ∧ (x4 < 12 → BlkM g M_X10_missing x0 Q 34 [(0, .ref x0), (1, .int x1), (2, .int (nI x2)), (3, .int (nI x3)), (4, .int (nI x4)), (5, .int (nI 0)), (6, .int (nI 0)), (7, .int (nI 0))] [] s)))) : BlkM g M_X10_missing x0 Q 18 [(0, .ref x0), (1, .int x1), (2, .int (nI x2)), (3, .int (nI x3)), (4, .int (nI x4))] [] s := by
  intro h0 h nx HO HM
  refine r_iload 4 dX10_missing_18 rfl ?_
  refine r_bipush (v := (nI 12)) dX10_missing_20 rfl ?_
  obtain ⟨c, V⟩ := V
  refine r_icmp_geN (tgt := 156) dX10_missing_22 (by decide) c (fun c => ?_) (fun c => ?_)
  · have V := V.1 c
    refine r_iincN 3 (b := 1) (L' := [(3, .int (nI (x3 + 1))), (0, .ref x0), (1, .int x1), (2, .int (nI x2)), (4, .int (nI x4))]) dX10_missing_156 rfl rfl (by decide) rfl ?_
    refine r_goto (tgt := 9) dX10_missing_159 (by decide) ?_
    exact Blk.sub [1, 2, 3, 0] rfl (V _ _ _ HO HM)
  · have V := V.2 c
    refine r_iconst (v := (nI 0)) dX10_missing_25 rfl ?_
    refine r_istore (L' := [(5, .int (nI 0)), (0, .ref x0), (1, .int x1), (2, .int (nI x2)), (3, .int (nI x3)), (4, .int (nI x4))]) dX10_missing_26 (by decide) rfl ?_
    refine r_iconst (v := (nI 0)) dX10_missing_28 rfl ?_
    refine r_istore (L' := [(6, .int (nI 0)), (5, .int (nI 0)), (0, .ref x0), (1, .int x1), (2, .int (nI x2)), (3, .int (nI x3)), (4, .int (nI x4))]) dX10_missing_29 (by decide) rfl ?_
    refine r_iconst (v := (nI 0)) dX10_missing_31 rfl ?_
    refine r_istore (L' := [(7, .int (nI 0)), (6, .int (nI 0)), (5, .int (nI 0)), (0, .ref x0), (1, .int x1), (2, .int (nI x2)), (3, .int (nI x3)), (4, .int (nI x4))]) dX10_missing_32 (by decide) rfl ?_
    exact Blk.sub [3, 4, 5, 6, 7, 2, 1, 0] rfl (V _ _ _ HO HM)
set_option maxRecDepth 20000 in
theorem v_X10_missing_34 {g : xG} {Q : mQ} {s : MV} {x0 : Nat} {x1 : Int32} {x2 : Nat} {x3 : Nat} {x4 : Nat} {x5 : Nat} {x6 : Nat} {x7 : Nat} (V : ((x7 < 2 ^ 31 ∧ 12 < 2 ^ 31) ∧ ((12 ≤ x7 → (x5 < 2 ^ 31 ∧ ((x5 = 0 → BlkM g M_X10_missing x0 Q 150 [(0, .ref x0), (1, .int x1), (2, .int (nI x2)), (3, .int (nI x3)), (4, .int (nI x4))] [] s) ∧ (¬ x5 = 0 → (x6 < 2 ^ 31 ∧ ((x6 = 0 → BlkM g M_X10_missing x0 Q 150 [(0, .ref x0), (1, .int x1), (2, .int (nI x2)), (3, .int (nI x3)), (4, .int (nI x4))] [] s) ∧ (¬ x6 = 0 → (CtM g M_X10_gradeOf [.ref x0, .int (nI x3), .int (nI x4)] x0 s (fun r s3 => ∃ v4 : Int32, r = some (.int v4) ∧ ((¬ v4 = (-1) → BlkM g M_X10_missing x0 Q 150 [(0, .ref x0), (1, .int x1), (2, .int (nI x2)), (3, .int (nI x3)), (4, .int (nI x4))] [] s3) ∧ (v4 = (-1) → ((¬ (nI x2) = x1 → BlkM g M_X10_missing x0 Q 150 [(0, .ref x0), (1, .int x1), (2, .int (nI (x2 + 1))), (3, .int (nI x3)), (4, .int (nI x4))] [] s3) ∧ ((nI x2) = x1 → (Q (some (.int (nI ((16 * x3) + x4)))) s3)))))))))))))) ∧ (x7 < 12 → (CtM g M_X10_gradeOf [.ref x0, .int (nI x3), .int (nI x7)] x0 s (fun r s7 => ∃ v8 : Int32, r = some (.int v8) ∧ ((v8 = (-1) → BlkM g M_X10_missing x0 Q 59 [(0, .ref x0), (1, .int x1), (2, .int (nI x2)), (3, .int (nI x3)), (4, .int (nI x4)), (5, .int (nI x5)), (6, .int (nI x6)), (7, .int (nI x7)), (8, .int (nI 0))] [] s7) ∧ (¬ v8 = (-1) → BlkM g M_X10_missing x0 Q 59 [(0, .ref x0), (1, .int x1), (2, .int (nI x2)), (3, .int (nI x3)), (4, .int (nI x4)), (5, .int (nI x5)), (6, .int (nI x6)), (7, .int (nI x7)), (8, .int (nI 1))] [] s7)))))))) : BlkM g M_X10_missing x0 Q 34 [(0, .ref x0), (1, .int x1), (2, .int (nI x2)), (3, .int (nI x3)), (4, .int (nI x4)), (5, .int (nI x5)), (6, .int (nI x6)), (7, .int (nI x7))] [] s := by
  intro h0 h nx HO HM
  refine r_iload 7 dX10_missing_34 rfl ?_
  refine r_bipush (v := (nI 12)) dX10_missing_36 rfl ?_
  obtain ⟨c, V⟩ := V
  refine r_icmp_geN (tgt := 113) dX10_missing_38 (by decide) c (fun c => ?_) (fun c => ?_)
  · have V := V.1 c
    refine r_iload 5 dX10_missing_113 rfl ?_
    obtain ⟨c, V⟩ := V
    refine r_if_eqN (tgt := 150) dX10_missing_115 (by decide) c (fun c => ?_) (fun c => ?_)
    · have V := V.1 c
      exact Blk.sub [0, 1, 2, 3, 4] rfl (V _ _ _ HO HM)
    · have V := V.2 c
      refine r_iload 6 dX10_missing_118 rfl ?_
      obtain ⟨c, V⟩ := V
      refine r_if_eqN (tgt := 150) dX10_missing_120 (by decide) c (fun c => ?_) (fun c => ?_)
      · have V := V.1 c
        exact Blk.sub [0, 1, 2, 3, 4] rfl (V _ _ _ HO HM)
      · have V := V.2 c
        refine r_aload_n 0 dX10_missing_123 rfl rfl ?_
        refine r_iload_n 3 dX10_missing_124 rfl rfl ?_
        refine r_iload 4 dX10_missing_125 rfl ?_
        refine r_callV (M2 := M_X10_gradeOf) (ci := 11) (n := 2) (As := [.int (nI x3), .int (nI x4)]) rfl (wl5 wM_X10_184 wi_X10_gradeOf wS_X10_gradeOf wI_StateSharesModel wc_X10_gradeOf) (by decide +kernel) (by decide) rfl rfl (Nat.le_of_ble_eq_true rfl) dX10_missing_127 (MAt.o_ HM) (by decide) (by decide) (Ct.imp (V _ _ HM) (fun r h1 n2 V => ?_))
        obtain ⟨rfl, Oh1, s3, HMh1, V⟩ := V
        have HOh1 := Off.tr HO Oh1
        obtain ⟨v4, rfl, V⟩ := V
        show Blk g M_X10_missing (pM x0 h0 nx Q) 130 [(0, .ref x0), (1, .int x1), (2, .int (nI x2)), (3, .int (nI x3)), (4, .int (nI x4)), (5, .int (nI x5)), (6, .int (nI x6)), (7, .int (nI x7))] [.int v4] h1 nx 0 0
        refine r_iconst (v := (-1)) dX10_missing_130 rfl ?_
        refine r_icmp_ne (tgt := 150) dX10_missing_131 (by decide) (fun c => ?_) (fun c => ?_)
        · have V := V.1 c
          exact Blk.sub [0, 1, 2, 3, 4] rfl (V _ _ _ HOh1 HMh1)
        · have V := V.2 c
          refine r_iload_n 2 dX10_missing_134 rfl rfl ?_
          refine r_iload_n 1 dX10_missing_135 rfl rfl ?_
          refine r_icmp_ne (tgt := 147) dX10_missing_136 (by decide) (fun c => ?_) (fun c => ?_)
          · have V := V.1 c
            refine r_iincN 2 (b := 1) (L' := [(2, .int (nI (x2 + 1))), (0, .ref x0), (1, .int x1), (3, .int (nI x3)), (4, .int (nI x4)), (5, .int (nI x5)), (6, .int (nI x6)), (7, .int (nI x7))]) dX10_missing_147 rfl rfl (by decide) rfl ?_
            exact Blk.sub [1, 2, 0, 3, 4] rfl (V _ _ _ HOh1 HMh1)
          · have V := V.2 c
            refine r_bipush (v := (nI 16)) dX10_missing_139 rfl ?_
            refine r_iload_n 3 dX10_missing_141 rfl rfl ?_
            refine r_imulN dX10_missing_142 ?_
            refine r_iload 4 dX10_missing_143 rfl ?_
            refine r_iaddN dX10_missing_145 ?_
            exact r_iret dX10_missing_146 rfl (by decide) (by decide) ⟨rfl, HOh1, _, HMh1, V⟩
  · have V := V.2 c
    refine r_aload_n 0 dX10_missing_41 rfl rfl ?_
    refine r_iload_n 3 dX10_missing_42 rfl rfl ?_
    refine r_iload 7 dX10_missing_43 rfl ?_
    refine r_callV (M2 := M_X10_gradeOf) (ci := 11) (n := 2) (As := [.int (nI x3), .int (nI x7)]) rfl (wl5 wM_X10_184 wi_X10_gradeOf wS_X10_gradeOf wI_StateSharesModel wc_X10_gradeOf) (by decide +kernel) (by decide) rfl rfl (Nat.le_of_ble_eq_true rfl) dX10_missing_45 (MAt.o_ HM) (by decide) (by decide) (Ct.imp (V _ _ HM) (fun r h5 n6 V => ?_))
    obtain ⟨rfl, Oh5, s7, HMh5, V⟩ := V
    have HOh5 := Off.tr HO Oh5
    obtain ⟨v8, rfl, V⟩ := V
    show Blk g M_X10_missing (pM x0 h0 nx Q) 48 [(0, .ref x0), (1, .int x1), (2, .int (nI x2)), (3, .int (nI x3)), (4, .int (nI x4)), (5, .int (nI x5)), (6, .int (nI x6)), (7, .int (nI x7))] [.int v8] h5 nx 0 0
    refine r_iconst (v := (-1)) dX10_missing_48 rfl ?_
    refine r_icmp_eq (tgt := 56) dX10_missing_49 (by decide) (fun c => ?_) (fun c => ?_)
    · have V := V.1 c
      refine r_iconst (v := (nI 0)) dX10_missing_56 rfl ?_
      refine r_istore (L' := [(8, .int (nI 0)), (0, .ref x0), (1, .int x1), (2, .int (nI x2)), (3, .int (nI x3)), (4, .int (nI x4)), (5, .int (nI x5)), (6, .int (nI x6)), (7, .int (nI x7))]) dX10_missing_57 (by decide) rfl ?_
      exact Blk.sub [1, 2, 3, 4, 5, 6, 7, 8, 0] rfl (V _ _ _ HOh5 HMh5)
    · have V := V.2 c
      refine r_iconst (v := (nI 1)) dX10_missing_52 rfl ?_
      refine r_goto (tgt := 57) dX10_missing_53 (by decide) ?_
      refine r_istore (L' := [(8, .int (nI 1)), (0, .ref x0), (1, .int x1), (2, .int (nI x2)), (3, .int (nI x3)), (4, .int (nI x4)), (5, .int (nI x5)), (6, .int (nI x6)), (7, .int (nI x7))]) dX10_missing_57 (by decide) rfl ?_
      exact Blk.sub [1, 2, 3, 4, 5, 6, 7, 8, 0] rfl (V _ _ _ HOh5 HMh5)
set_option maxRecDepth 20000 in
theorem v_X10_missing_59 {g : xG} {Q : mQ} {s : MV} {x0 : Nat} {x1 : Int32} {x2 : Nat} {x3 : Nat} {x4 : Nat} {x5 : Nat} {x6 : Nat} {x7 : Nat} {x8 : Nat} (V : (x5 < 2 ^ 31 ∧ ((¬ x5 = 0 → BlkM g M_X10_missing x0 Q 83 [(0, .ref x0), (1, .int x1), (2, .int (nI x2)), (3, .int (nI x3)), (4, .int (nI x4)), (5, .int (nI 1)), (6, .int (nI x6)), (7, .int (nI x7)), (8, .int (nI x8))] [] s) ∧ (x5 = 0 → ((x7 < 2 ^ 31 ∧ x4 < 2 ^ 31) ∧ ((x4 ≤ x7 → BlkM g M_X10_missing x0 Q 83 [(0, .ref x0), (1, .int x1), (2, .int (nI x2)), (3, .int (nI x3)), (4, .int (nI x4)), (5, .int (nI 0)), (6, .int (nI x6)), (7, .int (nI x7)), (8, .int (nI x8))] [] s) ∧ (x7 < x4 → (x8 < 2 ^ 31 ∧ ((x8 = 0 → BlkM g M_X10_missing x0 Q 83 [(0, .ref x0), (1, .int x1), (2, .int (nI x2)), (3, .int (nI x3)), (4, .int (nI x4)), (5, .int (nI 0)), (6, .int (nI x6)), (7, .int (nI x7)), (8, .int (nI x8))] [] s) ∧ (¬ x8 = 0 → BlkM g M_X10_missing x0 Q 83 [(0, .ref x0), (1, .int x1), (2, .int (nI x2)), (3, .int (nI x3)), (4, .int (nI x4)), (5, .int (nI 1)), (6, .int (nI x6)), (7, .int (nI x7)), (8, .int (nI x8))] [] s)))))))))) : BlkM g M_X10_missing x0 Q 59 [(0, .ref x0), (1, .int x1), (2, .int (nI x2)), (3, .int (nI x3)), (4, .int (nI x4)), (5, .int (nI x5)), (6, .int (nI x6)), (7, .int (nI x7)), (8, .int (nI x8))] [] s := by
  intro h0 h nx HO HM
  refine r_iload 5 dX10_missing_59 rfl ?_
  obtain ⟨c, V⟩ := V
  refine r_if_neN (tgt := 76) dX10_missing_61 (by decide) c (fun c => ?_) (fun c => ?_)
  · have V := V.1 c
    refine r_iconst (v := (nI 1)) dX10_missing_76 rfl ?_
    refine r_goto (tgt := 81) dX10_missing_77 (by decide) ?_
    refine r_istore (L' := [(5, .int (nI 1)), (0, .ref x0), (1, .int x1), (2, .int (nI x2)), (3, .int (nI x3)), (4, .int (nI x4)), (6, .int (nI x6)), (7, .int (nI x7)), (8, .int (nI x8))]) dX10_missing_81 (by decide) rfl ?_
    exact Blk.sub [1, 2, 3, 4, 5, 0, 6, 7, 8] rfl (V _ _ _ HO HM)
  · have V := V.2 c
    refine r_iload 7 dX10_missing_64 rfl ?_
    refine r_iload 4 dX10_missing_66 rfl ?_
    obtain ⟨c, V⟩ := V
    refine r_icmp_geN (tgt := 80) dX10_missing_68 (by decide) c (fun c => ?_) (fun c => ?_)
    · have V := V.1 c
      refine r_iconst (v := (nI 0)) dX10_missing_80 rfl ?_
      refine r_istore (L' := [(5, .int (nI 0)), (0, .ref x0), (1, .int x1), (2, .int (nI x2)), (3, .int (nI x3)), (4, .int (nI x4)), (6, .int (nI x6)), (7, .int (nI x7)), (8, .int (nI x8))]) dX10_missing_81 (by decide) rfl ?_
      exact Blk.sub [1, 2, 3, 4, 5, 0, 6, 7, 8] rfl (V _ _ _ HO HM)
    · have V := V.2 c
      refine r_iload 8 dX10_missing_71 rfl ?_
      obtain ⟨c, V⟩ := V
      refine r_if_eqN (tgt := 80) dX10_missing_73 (by decide) c (fun c => ?_) (fun c => ?_)
      · have V := V.1 c
        refine r_iconst (v := (nI 0)) dX10_missing_80 rfl ?_
        refine r_istore (L' := [(5, .int (nI 0)), (0, .ref x0), (1, .int x1), (2, .int (nI x2)), (3, .int (nI x3)), (4, .int (nI x4)), (6, .int (nI x6)), (7, .int (nI x7)), (8, .int (nI x8))]) dX10_missing_81 (by decide) rfl ?_
        exact Blk.sub [1, 2, 3, 4, 5, 0, 6, 7, 8] rfl (V _ _ _ HO HM)
      · have V := V.2 c
        refine r_iconst (v := (nI 1)) dX10_missing_76 rfl ?_
        refine r_goto (tgt := 81) dX10_missing_77 (by decide) ?_
        refine r_istore (L' := [(5, .int (nI 1)), (0, .ref x0), (1, .int x1), (2, .int (nI x2)), (3, .int (nI x3)), (4, .int (nI x4)), (6, .int (nI x6)), (7, .int (nI x7)), (8, .int (nI x8))]) dX10_missing_81 (by decide) rfl ?_
        exact Blk.sub [1, 2, 3, 4, 5, 0, 6, 7, 8] rfl (V _ _ _ HO HM)
set_option maxRecDepth 20000 in
theorem v_X10_missing_83 {g : xG} {Q : mQ} {s : MV} {x0 : Nat} {x1 : Int32} {x2 : Nat} {x3 : Nat} {x4 : Nat} {x5 : Nat} {x6 : Nat} {x7 : Nat} {x8 : Nat} (V : (x6 < 2 ^ 31 ∧ ((¬ x6 = 0 → BlkM g M_X10_missing x0 Q 107 [(0, .ref x0), (1, .int x1), (2, .int (nI x2)), (3, .int (nI x3)), (4, .int (nI x4)), (5, .int (nI x5)), (6, .int (nI 1)), (7, .int (nI x7))] [] s) ∧ (x6 = 0 → ((x7 < 2 ^ 31 ∧ x4 < 2 ^ 31) ∧ ((x7 ≤ x4 → BlkM g M_X10_missing x0 Q 107 [(0, .ref x0), (1, .int x1), (2, .int (nI x2)), (3, .int (nI x3)), (4, .int (nI x4)), (5, .int (nI x5)), (6, .int (nI 0)), (7, .int (nI x7))] [] s) ∧ (x4 < x7 → (x8 < 2 ^ 31 ∧ ((x8 = 0 → BlkM g M_X10_missing x0 Q 107 [(0, .ref x0), (1, .int x1), (2, .int (nI x2)), (3, .int (nI x3)), (4, .int (nI x4)), (5, .int (nI x5)), (6, .int (nI 0)), (7, .int (nI x7))] [] s) ∧ (¬ x8 = 0 → BlkM g M_X10_missing x0 Q 107 [(0, .ref x0), (1, .int x1), (2, .int (nI x2)), (3, .int (nI x3)), (4, .int (nI x4)), (5, .int (nI x5)), (6, .int (nI 1)), (7, .int (nI x7))] [] s)))))))))) : BlkM g M_X10_missing x0 Q 83 [(0, .ref x0), (1, .int x1), (2, .int (nI x2)), (3, .int (nI x3)), (4, .int (nI x4)), (5, .int (nI x5)), (6, .int (nI x6)), (7, .int (nI x7)), (8, .int (nI x8))] [] s := by
  intro h0 h nx HO HM
  refine r_iload 6 dX10_missing_83 rfl ?_
  obtain ⟨c, V⟩ := V
  refine r_if_neN (tgt := 100) dX10_missing_85 (by decide) c (fun c => ?_) (fun c => ?_)
  · have V := V.1 c
    refine r_iconst (v := (nI 1)) dX10_missing_100 rfl ?_
    refine r_goto (tgt := 105) dX10_missing_101 (by decide) ?_
    refine r_istore (L' := [(6, .int (nI 1)), (0, .ref x0), (1, .int x1), (2, .int (nI x2)), (3, .int (nI x3)), (4, .int (nI x4)), (5, .int (nI x5)), (7, .int (nI x7)), (8, .int (nI x8))]) dX10_missing_105 (by decide) rfl ?_
    exact Blk.sub [1, 2, 3, 4, 5, 6, 0, 7] rfl (V _ _ _ HO HM)
  · have V := V.2 c
    refine r_iload 7 dX10_missing_88 rfl ?_
    refine r_iload 4 dX10_missing_90 rfl ?_
    obtain ⟨c, V⟩ := V
    refine r_icmp_leN (tgt := 104) dX10_missing_92 (by decide) c (fun c => ?_) (fun c => ?_)
    · have V := V.1 c
      refine r_iconst (v := (nI 0)) dX10_missing_104 rfl ?_
      refine r_istore (L' := [(6, .int (nI 0)), (0, .ref x0), (1, .int x1), (2, .int (nI x2)), (3, .int (nI x3)), (4, .int (nI x4)), (5, .int (nI x5)), (7, .int (nI x7)), (8, .int (nI x8))]) dX10_missing_105 (by decide) rfl ?_
      exact Blk.sub [1, 2, 3, 4, 5, 6, 0, 7] rfl (V _ _ _ HO HM)
    · have V := V.2 c
      refine r_iload 8 dX10_missing_95 rfl ?_
      obtain ⟨c, V⟩ := V
      refine r_if_eqN (tgt := 104) dX10_missing_97 (by decide) c (fun c => ?_) (fun c => ?_)
      · have V := V.1 c
        refine r_iconst (v := (nI 0)) dX10_missing_104 rfl ?_
        refine r_istore (L' := [(6, .int (nI 0)), (0, .ref x0), (1, .int x1), (2, .int (nI x2)), (3, .int (nI x3)), (4, .int (nI x4)), (5, .int (nI x5)), (7, .int (nI x7)), (8, .int (nI x8))]) dX10_missing_105 (by decide) rfl ?_
        exact Blk.sub [1, 2, 3, 4, 5, 6, 0, 7] rfl (V _ _ _ HO HM)
      · have V := V.2 c
        refine r_iconst (v := (nI 1)) dX10_missing_100 rfl ?_
        refine r_goto (tgt := 105) dX10_missing_101 (by decide) ?_
        refine r_istore (L' := [(6, .int (nI 1)), (0, .ref x0), (1, .int x1), (2, .int (nI x2)), (3, .int (nI x3)), (4, .int (nI x4)), (5, .int (nI x5)), (7, .int (nI x7)), (8, .int (nI x8))]) dX10_missing_105 (by decide) rfl ?_
        exact Blk.sub [1, 2, 3, 4, 5, 6, 0, 7] rfl (V _ _ _ HO HM)
set_option maxRecDepth 20000 in
theorem v_X10_missing_107 {g : xG} {Q : mQ} {s : MV} {x0 : Nat} {x1 : Int32} {x2 : Nat} {x3 : Nat} {x4 : Nat} {x5 : Nat} {x6 : Nat} {x7 : Nat} (V : BlkM g M_X10_missing x0 Q 34 [(0, .ref x0), (1, .int x1), (2, .int (nI x2)), (3, .int (nI x3)), (4, .int (nI x4)), (5, .int (nI x5)), (6, .int (nI x6)), (7, .int (nI (x7 + 1)))] [] s) : BlkM g M_X10_missing x0 Q 107 [(0, .ref x0), (1, .int x1), (2, .int (nI x2)), (3, .int (nI x3)), (4, .int (nI x4)), (5, .int (nI x5)), (6, .int (nI x6)), (7, .int (nI x7))] [] s := by
  intro h0 h nx HO HM
  refine r_iincN 7 (b := 1) (L' := [(7, .int (nI (x7 + 1))), (0, .ref x0), (1, .int x1), (2, .int (nI x2)), (3, .int (nI x3)), (4, .int (nI x4)), (5, .int (nI x5)), (6, .int (nI x6))]) dX10_missing_107 rfl rfl (by decide) rfl ?_
  refine r_goto (tgt := 34) dX10_missing_110 (by decide) ?_
  exact Blk.sub [1, 2, 3, 4, 5, 6, 7, 0] rfl (V _ _ _ HO HM)
set_option maxRecDepth 20000 in
theorem v_X10_missing_150 {g : xG} {Q : mQ} {s : MV} {x0 : Nat} {x1 : Int32} {x2 : Nat} {x3 : Nat} {x4 : Nat} (V : BlkM g M_X10_missing x0 Q 18 [(0, .ref x0), (1, .int x1), (2, .int (nI x2)), (3, .int (nI x3)), (4, .int (nI (x4 + 1)))] [] s) : BlkM g M_X10_missing x0 Q 150 [(0, .ref x0), (1, .int x1), (2, .int (nI x2)), (3, .int (nI x3)), (4, .int (nI x4))] [] s := by
  intro h0 h nx HO HM
  refine r_iincN 4 (b := 1) (L' := [(4, .int (nI (x4 + 1))), (0, .ref x0), (1, .int x1), (2, .int (nI x2)), (3, .int (nI x3))]) dX10_missing_150 rfl rfl (by decide) rfl ?_
  refine r_goto (tgt := 18) dX10_missing_153 (by decide) ?_
  exact Blk.sub [1, 2, 3, 4, 0] rfl (V _ _ _ HO HM)
set_option maxRecDepth 20000 in
theorem v_X10_countAll_0 {g : xG} {Q : mQ} {s : MV} {x0 : Nat} (V : BlkM g M_X10_countAll x0 Q 2 [(0, .ref x0), (1, .int (nI 0))] [] s) : BlkM g M_X10_countAll x0 Q 0 [(0, .ref x0)] [] s := by
  intro h0 h nx HO HM
  refine r_iconst (v := (nI 0)) dX10_countAll_0 rfl ?_
  refine r_istore_n (L' := [(1, .int (nI 0)), (0, .ref x0)]) dX10_countAll_1 rfl (by decide) rfl ?_
  exact Blk.sub [1, 0] rfl (V _ _ _ HO HM)
set_option maxRecDepth 20000 in
theorem v_X10_countAll_2 {g : xG} {Q : mQ} {s : MV} {x0 : Nat} {x1 : Nat} (V : ((x1 < 2 ^ 31 ∧ 36 < 2 ^ 31) ∧ ((36 ≤ x1 → BlkM g M_X10_countAll x0 Q 23 [(0, .ref x0), (1, .int (nI 0))] [] s) ∧ (x1 < 36 → (x1 < 36 ∧ BlkM g M_X10_countAll x0 Q 2 [(0, .ref x0), (1, .int (nI (x1 + 1)))] [] (MV.u_ct s (va_up s.ct x1 0))))))) : BlkM g M_X10_countAll x0 Q 2 [(0, .ref x0), (1, .int (nI x1))] [] s := by
  intro h0 h nx HO HM
  refine r_iload_n 1 dX10_countAll_2 rfl rfl ?_
  refine r_bipush (v := (nI 36)) dX10_countAll_3 rfl ?_
  obtain ⟨c, V⟩ := V
  refine r_icmp_geN (tgt := 21) dX10_countAll_5 (by decide) c (fun c => ?_) (fun c => ?_)
  · have V := V.1 c
    refine r_iconst (v := (nI 0)) dX10_countAll_21 rfl ?_
    refine r_istore_n (L' := [(1, .int (nI 0)), (0, .ref x0)]) dX10_countAll_22 rfl (by decide) rfl ?_
    exact Blk.sub [1, 0] rfl (V _ _ _ HO HM)
  · have V := V.2 c
    refine r_aload_n 0 dX10_countAll_8 rfl rfl ?_
    refine r_getf (ci := 11) (kf := 16) (T := TX10) rfl in_X10 (by decide) wF_X10_31 dX10_countAll_9 (MAt.o_ HM) rfl ?_
    refine r_iload_n 1 dX10_countAll_12 rfl rfl ?_
    refine r_iconst (v := (nI 0)) dX10_countAll_13 rfl ?_
    obtain ⟨c, V⟩ := V
    refine r_iastN dX10_countAll_14 (MAt.g_ct HM) c (by decide) ?_
    obtain ⟨hu1, eu1, HMu1, HOu1⟩ := mo_ct HM HO (va_up s.ct x1 0)
    refine Blk.eqs ?_ rfl rfl eu1
    replace HMu1 : MAt hu1 x0 (MV.u_ct s (va_up s.ct x1 0)) := HMu1
    show Blk g M_X10_countAll (pM x0 h0 nx Q) 15 [(0, .ref x0), (1, .int (nI x1))] [] hu1 nx 0 0
    refine r_iincN 1 (b := 1) (L' := [(1, .int (nI (x1 + 1))), (0, .ref x0)]) dX10_countAll_15 rfl rfl (by decide) rfl ?_
    refine r_goto (tgt := 2) dX10_countAll_18 (by decide) ?_
    exact Blk.sub [1, 0] rfl (V _ _ _ HOu1 HMu1)
set_option maxRecDepth 20000 in
theorem v_X10_countAll_23 {g : xG} {Q : mQ} {s : MV} {x0 : Nat} {x1 : Nat} (V : ((x1 < 2 ^ 31 ∧ 10 < 2 ^ 31) ∧ ((10 ≤ x1 → BlkM g M_X10_countAll x0 Q 104 [(0, .ref x0), (1, .int (nI 0)), (2, .int (nI 0)), (3, .int (nI 0)), (4, .int (nI 0))] [] s) ∧ (x1 < 10 → BlkM g M_X10_countAll x0 Q 31 [(0, .ref x0), (1, .int (nI x1)), (2, .int (nI 0))] [] s)))) : BlkM g M_X10_countAll x0 Q 23 [(0, .ref x0), (1, .int (nI x1))] [] s := by
  intro h0 h nx HO HM
  refine r_iload_n 1 dX10_countAll_23 rfl rfl ?_
  refine r_bipush (v := (nI 10)) dX10_countAll_24 rfl ?_
  obtain ⟨c, V⟩ := V
  refine r_icmp_geN (tgt := 95) dX10_countAll_26 (by decide) c (fun c => ?_) (fun c => ?_)
  · have V := V.1 c
    refine r_iconst (v := (nI 0)) dX10_countAll_95 rfl ?_
    refine r_istore_n (L' := [(1, .int (nI 0)), (0, .ref x0)]) dX10_countAll_96 rfl (by decide) rfl ?_
    refine r_iconst (v := (nI 0)) dX10_countAll_97 rfl ?_
    refine r_istore_n (L' := [(2, .int (nI 0)), (1, .int (nI 0)), (0, .ref x0)]) dX10_countAll_98 rfl (by decide) rfl ?_
    refine r_iconst (v := (nI 0)) dX10_countAll_99 rfl ?_
    refine r_istore_n (L' := [(3, .int (nI 0)), (2, .int (nI 0)), (1, .int (nI 0)), (0, .ref x0)]) dX10_countAll_100 rfl (by decide) rfl ?_
    refine r_iconst (v := (nI 0)) dX10_countAll_101 rfl ?_
    refine r_istore (L' := [(4, .int (nI 0)), (3, .int (nI 0)), (2, .int (nI 0)), (1, .int (nI 0)), (0, .ref x0)]) dX10_countAll_102 (by decide) rfl ?_
    exact Blk.sub [4, 3, 2, 1, 0] rfl (V _ _ _ HO HM)
  · have V := V.2 c
    refine r_iconst (v := (nI 0)) dX10_countAll_29 rfl ?_
    refine r_istore_n (L' := [(2, .int (nI 0)), (0, .ref x0), (1, .int (nI x1))]) dX10_countAll_30 rfl (by decide) rfl ?_
    exact Blk.sub [1, 2, 0] rfl (V _ _ _ HO HM)
set_option maxRecDepth 20000 in
theorem v_X10_countAll_31 {g : xG} {Q : mQ} {s : MV} {x0 : Nat} {x1 : Nat} {x2 : Nat} (V : (((x2 + 1) < 2 ^ 31 ∧ 12 < 2 ^ 31) ∧ ((12 ≤ (x2 + 1) → BlkM g M_X10_countAll x0 Q 23 [(0, .ref x0), (1, .int (nI (x1 + 1)))] [] s) ∧ ((x2 + 1) < 12 → (CtM g M_X10_gradeOf [.ref x0, .int (nI x1), .int (nI x2)] x0 s (fun r s3 => ∃ v4 : Int32, r = some (.int v4) ∧ (CtM g M_X10_gradeOf [.ref x0, .int (nI x1), .int (nI (x2 + 1))] x0 s3 (fun r s7 => ∃ v8 : Int32, r = some (.int v8) ∧ ((v4 = (-1) → BlkM g M_X10_countAll x0 Q 31 [(0, .ref x0), (1, .int (nI x1)), (2, .int (nI (x2 + 1)))] [] s7) ∧ (¬ v4 = (-1) → ((v8 = (-1) → BlkM g M_X10_countAll x0 Q 31 [(0, .ref x0), (1, .int (nI x1)), (2, .int (nI (x2 + 1)))] [] s7) ∧ (¬ v8 = (-1) → (∃ j9 : Nat, (((nI 6) * v4) + v8) = nI j9 ∧ j9 < 36 ∧ (∃ j11 : Nat, (((nI 6) * v4) + v8) = nI j11 ∧ j11 < 36 ∧ BlkM g M_X10_countAll x0 Q 31 [(0, .ref x0), (1, .int (nI x1)), (2, .int (nI (x2 + 1)))] [] (MV.u_ct s7 (va_up s7.ct j11 ((s7.ct j9) + 1))))))))))))))))) : BlkM g M_X10_countAll x0 Q 31 [(0, .ref x0), (1, .int (nI x1)), (2, .int (nI x2))] [] s := by
  intro h0 h nx HO HM
  refine r_iload_n 2 dX10_countAll_31 rfl rfl ?_
  refine r_iconst (v := (nI 1)) dX10_countAll_32 rfl ?_
  refine r_iaddN dX10_countAll_33 ?_
  refine r_bipush (v := (nI 12)) dX10_countAll_34 rfl ?_
  obtain ⟨c, V⟩ := V
  refine r_icmp_geN (tgt := 89) dX10_countAll_36 (by decide) c (fun c => ?_) (fun c => ?_)
  · have V := V.1 c
    refine r_iincN 1 (b := 1) (L' := [(1, .int (nI (x1 + 1))), (0, .ref x0), (2, .int (nI x2))]) dX10_countAll_89 rfl rfl (by decide) rfl ?_
    refine r_goto (tgt := 23) dX10_countAll_92 (by decide) ?_
    exact Blk.sub [1, 0] rfl (V _ _ _ HO HM)
  · have V := V.2 c
    refine r_aload_n 0 dX10_countAll_39 rfl rfl ?_
    refine r_iload_n 1 dX10_countAll_40 rfl rfl ?_
    refine r_iload_n 2 dX10_countAll_41 rfl rfl ?_
    refine r_callV (M2 := M_X10_gradeOf) (ci := 11) (n := 2) (As := [.int (nI x1), .int (nI x2)]) rfl (wl5 wM_X10_184 wi_X10_gradeOf wS_X10_gradeOf wI_StateSharesModel wc_X10_gradeOf) (by decide +kernel) (by decide) rfl rfl (Nat.le_of_ble_eq_true rfl) dX10_countAll_42 (MAt.o_ HM) (by decide) (by decide) (Ct.imp (V _ _ HM) (fun r h1 n2 V => ?_))
    obtain ⟨rfl, Oh1, s3, HMh1, V⟩ := V
    have HOh1 := Off.tr HO Oh1
    obtain ⟨v4, rfl, V⟩ := V
    show Blk g M_X10_countAll (pM x0 h0 nx Q) 45 [(0, .ref x0), (1, .int (nI x1)), (2, .int (nI x2))] [.int v4] h1 nx 0 0
    refine r_istore_n (L' := [(3, .int v4), (0, .ref x0), (1, .int (nI x1)), (2, .int (nI x2))]) dX10_countAll_45 rfl (by decide) rfl ?_
    refine r_aload_n 1 dX10_countAll_46 rfl rfl ?_
    refine r_iload_n 2 dX10_countAll_47 rfl rfl ?_
    refine r_iload_n 3 dX10_countAll_48 rfl rfl ?_
    refine r_iconst (v := (nI 1)) dX10_countAll_49 rfl ?_
    refine r_iaddN dX10_countAll_50 ?_
    refine r_callV (M2 := M_X10_gradeOf) (ci := 11) (n := 2) (As := [.int (nI x1), .int (nI (x2 + 1))]) rfl (wl5 wM_X10_184 wi_X10_gradeOf wS_X10_gradeOf wI_StateSharesModel wc_X10_gradeOf) (by decide +kernel) (by decide) rfl rfl (Nat.le_of_ble_eq_true rfl) dX10_countAll_51 (MAt.o_ HMh1) (by decide) (by decide) (Ct.imp (V _ _ HMh1) (fun r h5 n6 V => ?_))
    obtain ⟨rfl, Oh5, s7, HMh5, V⟩ := V
    have HOh5 := Off.tr HOh1 Oh5
    obtain ⟨v8, rfl, V⟩ := V
    show Blk g M_X10_countAll (pM x0 h0 nx Q) 54 [(3, .int v4), (0, .ref x0), (1, .int (nI x1)), (2, .int (nI x2))] [.int v8] h5 nx 0 0
    refine r_istore (L' := [(4, .int v8), (3, .int v4), (0, .ref x0), (1, .int (nI x1)), (2, .int (nI x2))]) dX10_countAll_54 (by decide) rfl ?_
    refine r_iload_n 1 dX10_countAll_56 rfl rfl ?_
    refine r_iconst (v := (-1)) dX10_countAll_57 rfl ?_
    refine r_icmp_eq (tgt := 83) dX10_countAll_58 (by decide) (fun c => ?_) (fun c => ?_)
    · have V := V.1 c
      refine r_iincN 4 (b := 1) (L' := [(2, .int (nI (x2 + 1))), (4, .int v8), (3, .int v4), (0, .ref x0), (1, .int (nI x1))]) dX10_countAll_83 rfl rfl (by decide) rfl ?_
      refine r_goto (tgt := 31) dX10_countAll_86 (by decide) ?_
      exact Blk.sub [3, 4, 0] rfl (V _ _ _ HOh5 HMh5)
    · have V := V.2 c
      refine r_iload 0 dX10_countAll_61 rfl ?_
      refine r_iconst (v := (-1)) dX10_countAll_63 rfl ?_
      refine r_icmp_eq (tgt := 83) dX10_countAll_64 (by decide) (fun c => ?_) (fun c => ?_)
      · have V := V.1 c
        refine r_iincN 4 (b := 1) (L' := [(2, .int (nI (x2 + 1))), (4, .int v8), (3, .int v4), (0, .ref x0), (1, .int (nI x1))]) dX10_countAll_83 rfl rfl (by decide) rfl ?_
        refine r_goto (tgt := 31) dX10_countAll_86 (by decide) ?_
        exact Blk.sub [3, 4, 0] rfl (V _ _ _ HOh5 HMh5)
      · have V := V.2 c
        refine r_aload_n 2 dX10_countAll_67 rfl rfl ?_
        refine r_getf (ci := 11) (kf := 16) (T := TX10) rfl in_X10 (by decide) wF_X10_31 dX10_countAll_68 (MAt.o_ HMh5) rfl ?_
        refine r_bipush (v := (nI 6)) dX10_countAll_71 rfl ?_
        refine r_iload_n 1 dX10_countAll_73 rfl rfl ?_
        refine r_imul dX10_countAll_74 ?_
        refine r_iload 0 dX10_countAll_75 rfl ?_
        refine r_iadd dX10_countAll_77 ?_
        refine r_dup2_11 dX10_countAll_78 rfl rfl ?_
        obtain ⟨j9, e10, V⟩ := V
        obtain ⟨c, V⟩ := V
        refine r_iald dX10_countAll_79 (MAt.g_ct HMh5) e10 c (by decide) ?_
        show Blk g M_X10_countAll (pM x0 h0 nx Q) 80 [(4, .int v8), (3, .int v4), (0, .ref x0), (1, .int (nI x1)), (2, .int (nI x2))] [.int (nI (s7.ct j9)), .int (((nI 6) * v4) + v8), .ref (x0 + 8)] h5 nx 0 0
        refine r_iconst (v := (nI 1)) dX10_countAll_80 rfl ?_
        refine r_iaddN dX10_countAll_81 ?_
        obtain ⟨j11, e12, V⟩ := V
        obtain ⟨c, V⟩ := V
        refine r_iastH dX10_countAll_82 (MAt.g_ct HMh5) e12 c (by decide) ?_
        obtain ⟨hu13, eu13, HMu13, HOu13⟩ := mo_ct HMh5 HOh5 (va_up s7.ct j11 ((s7.ct j9) + 1))
        refine Blk.eqs ?_ rfl rfl eu13
        replace HMu13 : MAt hu13 x0 (MV.u_ct s7 (va_up s7.ct j11 ((s7.ct j9) + 1))) := HMu13
        show Blk g M_X10_countAll (pM x0 h0 nx Q) 83 [(4, .int v8), (3, .int v4), (0, .ref x0), (1, .int (nI x1)), (2, .int (nI x2))] [] hu13 nx 0 0
        refine r_iincN 4 (b := 1) (L' := [(2, .int (nI (x2 + 1))), (4, .int v8), (3, .int v4), (0, .ref x0), (1, .int (nI x1))]) dX10_countAll_83 rfl rfl (by decide) rfl ?_
        refine r_goto (tgt := 31) dX10_countAll_86 (by decide) ?_
        exact Blk.sub [3, 4, 0] rfl (V _ _ _ HOu13 HMu13)
set_option maxRecDepth 20000 in
theorem v_X10_countAll_104 {g : xG} {Q : mQ} {s : MV} {x0 : Nat} {x1 : Nat} {x2 : Nat} {x3 : Nat} {x4 : Nat} (V : ((x4 < 2 ^ 31 ∧ s.n < 2 ^ 31) ∧ ((s.n ≤ x4 → BlkM g M_X10_countAll x0 Q 156 [(0, .ref x0), (1, .int (nI x1)), (2, .int (nI x2)), (4, .int (nI 0))] [] s) ∧ (x4 < s.n → (x4 < 6 ∧ (CtM g M_X10_movesFrom [.ref x0, .int (nI x4)] x0 (MV.u_gp s (va_up s.gp x4 x1)) (fun r s4 => ∃ v5 : Nat, r = some (.int (nI v5)) ∧ (((x3 + v5) < 2 ^ 31 ∧ s4.lm < 2 ^ 31) ∧ (((x3 + v5) < s4.lm → BlkM g M_X10_countAll x0 Q 104 [(0, .ref x0), (1, .int (nI x1)), (2, .int (nI x2)), (3, .int (nI (x3 + v5))), (4, .int (nI (x4 + 1)))] [] s4) ∧ (s4.lm ≤ (x3 + v5) → BlkM g M_X10_countAll x0 Q 104 [(0, .ref x0), (1, .int (nI (x4 + 1))), (2, .int (nI x1)), (3, .int (nI 0)), (4, .int (nI (x4 + 1)))] [] s4)))))))))) : BlkM g M_X10_countAll x0 Q 104 [(0, .ref x0), (1, .int (nI x1)), (2, .int (nI x2)), (3, .int (nI x3)), (4, .int (nI x4))] [] s := by
  intro h0 h nx HO HM
  refine r_iload 4 dX10_countAll_104 rfl ?_
  refine r_aload_n 0 dX10_countAll_106 rfl rfl ?_
  refine r_getf (ci := 11) (kf := 1) (T := TX10) rfl in_X10 (by decide) wF_X10_75 dX10_countAll_107 (MAt.o_ HM) rfl ?_
  obtain ⟨c, V⟩ := V
  refine r_icmp_geN (tgt := 153) dX10_countAll_110 (by decide) c (fun c => ?_) (fun c => ?_)
  · have V := V.1 c
    refine r_iconst (v := (nI 0)) dX10_countAll_153 rfl ?_
    refine r_istore (L' := [(4, .int (nI 0)), (0, .ref x0), (1, .int (nI x1)), (2, .int (nI x2)), (3, .int (nI x3))]) dX10_countAll_154 (by decide) rfl ?_
    exact Blk.sub [1, 2, 3, 0] rfl (V _ _ _ HO HM)
  · have V := V.2 c
    refine r_aload_n 0 dX10_countAll_113 rfl rfl ?_
    refine r_getf (ci := 11) (kf := 17) (T := TX10) rfl in_X10 (by decide) wF_X10_34 dX10_countAll_114 (MAt.o_ HM) rfl ?_
    refine r_iload 4 dX10_countAll_117 rfl ?_
    refine r_iload_n 1 dX10_countAll_119 rfl rfl ?_
    obtain ⟨c, V⟩ := V
    refine r_iastN dX10_countAll_120 (MAt.g_gp HM) c (by decide) ?_
    obtain ⟨hu1, eu1, HMu1, HOu1⟩ := mo_gp HM HO (va_up s.gp x4 x1)
    refine Blk.eqs ?_ rfl rfl eu1
    replace HMu1 : MAt hu1 x0 (MV.u_gp s (va_up s.gp x4 x1)) := HMu1
    show Blk g M_X10_countAll (pM x0 h0 nx Q) 121 [(0, .ref x0), (1, .int (nI x1)), (2, .int (nI x2)), (3, .int (nI x3)), (4, .int (nI x4))] [] hu1 nx 0 0
    refine r_iload_n 3 dX10_countAll_121 rfl rfl ?_
    refine r_aload_n 0 dX10_countAll_122 rfl rfl ?_
    refine r_iload 4 dX10_countAll_123 rfl ?_
    refine r_callV (M2 := M_X10_movesFrom) (ci := 11) (n := 1) (As := [.int (nI x4)]) rfl (wl5 wM_X10_187 wi_X10_movesFrom wS_X10_movesFrom wI_StateSharesModel wc_X10_movesFrom) (by decide +kernel) (by decide) rfl rfl (Nat.le_of_ble_eq_true rfl) dX10_countAll_125 (MAt.o_ HMu1) (by decide) (by decide) (Ct.imp (V _ _ HMu1) (fun r h2 n3 V => ?_))
    obtain ⟨rfl, Oh2, s4, HMh2, V⟩ := V
    have HOh2 := Off.tr HOu1 Oh2
    obtain ⟨v5, rfl, V⟩ := V
    show Blk g M_X10_countAll (pM x0 h0 nx Q) 128 [(0, .ref x0), (1, .int (nI x1)), (2, .int (nI x2)), (3, .int (nI x3)), (4, .int (nI x4))] [.int (nI v5), .int (nI x3)] h2 nx 0 0
    refine r_iaddN dX10_countAll_128 ?_
    refine r_istore_n (L' := [(3, .int (nI (x3 + v5))), (0, .ref x0), (1, .int (nI x1)), (2, .int (nI x2)), (4, .int (nI x4))]) dX10_countAll_129 rfl (by decide) rfl ?_
    refine r_iload_n 0 dX10_countAll_130 rfl rfl ?_
    refine r_aload_n 1 dX10_countAll_131 rfl rfl ?_
    refine r_getf (ci := 11) (kf := 15) (T := TX10) rfl in_X10 (by decide) wF_X10_191 dX10_countAll_132 (MAt.o_ HMh2) rfl ?_
    obtain ⟨c, V⟩ := V
    refine r_icmp_ltN (tgt := 147) dX10_countAll_135 (by decide) c (fun c => ?_) (fun c => ?_)
    · have V := V.1 c
      refine r_iincN 4 (b := 1) (L' := [(4, .int (nI (x4 + 1))), (3, .int (nI (x3 + v5))), (0, .ref x0), (1, .int (nI x1)), (2, .int (nI x2))]) dX10_countAll_147 rfl rfl (by decide) rfl ?_
      refine r_goto (tgt := 104) dX10_countAll_150 (by decide) ?_
      exact Blk.sub [2, 3, 4, 1, 0] rfl (V _ _ _ HOh2 HMh2)
    · have V := V.2 c
      refine r_iload_n 2 dX10_countAll_138 rfl rfl ?_
      refine r_istore_n (L' := [(2, .int (nI x1)), (3, .int (nI (x3 + v5))), (0, .ref x0), (1, .int (nI x1)), (4, .int (nI x4))]) dX10_countAll_139 rfl (by decide) rfl ?_
      refine r_iload 4 dX10_countAll_140 rfl ?_
      refine r_iconst (v := (nI 1)) dX10_countAll_142 rfl ?_
      refine r_iaddN dX10_countAll_143 ?_
      refine r_istore_n (L' := [(1, .int (nI (x4 + 1))), (2, .int (nI x1)), (3, .int (nI (x3 + v5))), (0, .ref x0), (4, .int (nI x4))]) dX10_countAll_144 rfl (by decide) rfl ?_
      refine r_iconst (v := (nI 0)) dX10_countAll_145 rfl ?_
      refine r_istore_n (L' := [(3, .int (nI 0)), (1, .int (nI (x4 + 1))), (2, .int (nI x1)), (0, .ref x0), (4, .int (nI x4))]) dX10_countAll_146 rfl (by decide) rfl ?_
      refine r_iincN 4 (b := 1) (L' := [(4, .int (nI (x4 + 1))), (3, .int (nI 0)), (1, .int (nI (x4 + 1))), (2, .int (nI x1)), (0, .ref x0)]) dX10_countAll_147 rfl rfl (by decide) rfl ?_
      refine r_goto (tgt := 104) dX10_countAll_150 (by decide) ?_
      exact Blk.sub [4, 2, 3, 1, 0] rfl (V _ _ _ HOh2 HMh2)
set_option maxRecDepth 20000 in
theorem v_X10_countAll_156 {g : xG} {Q : mQ} {s : MV} {x0 : Nat} {x1 : Nat} {x2 : Nat} {x4 : Nat} (V : ((x4 < 2 ^ 31 ∧ s.n < 2 ^ 31) ∧ ((s.n ≤ x4 → (Q none s)) ∧ (x4 < s.n → ((x1 < 2 ^ 31 ∧ s.n < 2 ^ 31) ∧ ((s.n ≤ x1 → (x4 < 6 ∧ (x4 < 6 ∧ BlkM g M_X10_countAll x0 Q 156 [(0, .ref x0), (1, .int (nI x1)), (2, .int (nI x2)), (4, .int (nI (x4 + 1)))] [] (MV.u_gp s (va_up s.gp x4 (s.gp x4)))))) ∧ (x1 < s.n → (x4 < 6 ∧ (((s.gp x4) < 2 ^ 31 ∧ x1 < 2 ^ 31) ∧ ((¬ (s.gp x4) = x1 → (x4 < 6 ∧ (x4 < 6 ∧ BlkM g M_X10_countAll x0 Q 156 [(0, .ref x0), (1, .int (nI x1)), (2, .int (nI x2)), (4, .int (nI (x4 + 1)))] [] (MV.u_gp s (va_up s.gp x4 (s.gp x4)))))) ∧ ((s.gp x4) = x1 → (x4 < 6 ∧ BlkM g M_X10_countAll x0 Q 156 [(0, .ref x0), (1, .int (nI x1)), (2, .int (nI x2)), (4, .int (nI (x4 + 1)))] [] (MV.u_gp s (va_up s.gp x4 x2)))))))))))))) : BlkM g M_X10_countAll x0 Q 156 [(0, .ref x0), (1, .int (nI x1)), (2, .int (nI x2)), (4, .int (nI x4))] [] s := by
  intro h0 h nx HO HM
  refine r_iload 3 dX10_countAll_156 rfl ?_
  refine r_aload_n 0 dX10_countAll_158 rfl rfl ?_
  refine r_getf (ci := 11) (kf := 1) (T := TX10) rfl in_X10 (by decide) wF_X10_75 dX10_countAll_159 (MAt.o_ HM) rfl ?_
  obtain ⟨c, V⟩ := V
  refine r_icmp_geN (tgt := 208) dX10_countAll_162 (by decide) c (fun c => ?_) (fun c => ?_)
  · have V := V.1 c
    exact r_vret dX10_countAll_208 rfl (by decide) (by decide) ⟨rfl, HO, _, HM, V⟩
  · have V := V.2 c
    refine r_aload_n 0 dX10_countAll_165 rfl rfl ?_
    refine r_getf (ci := 11) (kf := 17) (T := TX10) rfl in_X10 (by decide) wF_X10_34 dX10_countAll_166 (MAt.o_ HM) rfl ?_
    refine r_iload 3 dX10_countAll_169 rfl ?_
    refine r_iload_n 1 dX10_countAll_171 rfl rfl ?_
    refine r_aload_n 0 dX10_countAll_172 rfl rfl ?_
    refine r_getf (ci := 11) (kf := 1) (T := TX10) rfl in_X10 (by decide) wF_X10_75 dX10_countAll_173 (MAt.o_ HM) rfl ?_
    obtain ⟨c, V⟩ := V
    refine r_icmp_geN (tgt := 194) dX10_countAll_176 (by decide) c (fun c => ?_) (fun c => ?_)
    · have V := V.1 c
      refine r_aload_n 0 dX10_countAll_194 rfl rfl ?_
      refine r_getf (ci := 11) (kf := 17) (T := TX10) rfl in_X10 (by decide) wF_X10_34 dX10_countAll_195 (MAt.o_ HM) rfl ?_
      refine r_iload 3 dX10_countAll_198 rfl ?_
      obtain ⟨c, V⟩ := V
      refine r_iald dX10_countAll_200 (MAt.g_gp HM) rfl c (by decide) ?_
      show Blk g M_X10_countAll (pM x0 h0 nx Q) 201 [(0, .ref x0), (1, .int (nI x1)), (2, .int (nI x2)), (4, .int (nI x4))] [.int (nI (s.gp x4)), .int (nI x4), .ref (x0 + 9)] h nx 0 0
      obtain ⟨c, V⟩ := V
      refine r_iastN dX10_countAll_201 (MAt.g_gp HM) c (by decide) ?_
      obtain ⟨hu1, eu1, HMu1, HOu1⟩ := mo_gp HM HO (va_up s.gp x4 (s.gp x4))
      refine Blk.eqs ?_ rfl rfl eu1
      replace HMu1 : MAt hu1 x0 (MV.u_gp s (va_up s.gp x4 (s.gp x4))) := HMu1
      show Blk g M_X10_countAll (pM x0 h0 nx Q) 202 [(0, .ref x0), (1, .int (nI x1)), (2, .int (nI x2)), (4, .int (nI x4))] [] hu1 nx 0 0
      refine r_iincN 3 (b := 1) (L' := [(4, .int (nI (x4 + 1))), (0, .ref x0), (1, .int (nI x1)), (2, .int (nI x2))]) dX10_countAll_202 rfl rfl (by decide) rfl ?_
      refine r_goto (tgt := 156) dX10_countAll_205 (by decide) ?_
      exact Blk.sub [1, 2, 3, 0] rfl (V _ _ _ HOu1 HMu1)
    · have V := V.2 c
      refine r_aload_n 0 dX10_countAll_179 rfl rfl ?_
      refine r_getf (ci := 11) (kf := 17) (T := TX10) rfl in_X10 (by decide) wF_X10_34 dX10_countAll_180 (MAt.o_ HM) rfl ?_
      refine r_iload 3 dX10_countAll_183 rfl ?_
      obtain ⟨c, V⟩ := V
      refine r_iald dX10_countAll_185 (MAt.g_gp HM) rfl c (by decide) ?_
      show Blk g M_X10_countAll (pM x0 h0 nx Q) 186 [(0, .ref x0), (1, .int (nI x1)), (2, .int (nI x2)), (4, .int (nI x4))] [.int (nI (s.gp x4)), .int (nI x4), .ref (x0 + 9)] h nx 0 0
      refine r_iload_n 1 dX10_countAll_186 rfl rfl ?_
      obtain ⟨c, V⟩ := V
      refine r_icmp_neN (tgt := 194) dX10_countAll_187 (by decide) c (fun c => ?_) (fun c => ?_)
      · have V := V.1 c
        refine r_aload_n 0 dX10_countAll_194 rfl rfl ?_
        refine r_getf (ci := 11) (kf := 17) (T := TX10) rfl in_X10 (by decide) wF_X10_34 dX10_countAll_195 (MAt.o_ HM) rfl ?_
        refine r_iload 3 dX10_countAll_198 rfl ?_
        obtain ⟨c, V⟩ := V
        refine r_iald dX10_countAll_200 (MAt.g_gp HM) rfl c (by decide) ?_
        show Blk g M_X10_countAll (pM x0 h0 nx Q) 201 [(0, .ref x0), (1, .int (nI x1)), (2, .int (nI x2)), (4, .int (nI x4))] [.int (nI (s.gp x4)), .int (nI x4), .ref (x0 + 9)] h nx 0 0
        obtain ⟨c, V⟩ := V
        refine r_iastN dX10_countAll_201 (MAt.g_gp HM) c (by decide) ?_
        obtain ⟨hu2, eu2, HMu2, HOu2⟩ := mo_gp HM HO (va_up s.gp x4 (s.gp x4))
        refine Blk.eqs ?_ rfl rfl eu2
        replace HMu2 : MAt hu2 x0 (MV.u_gp s (va_up s.gp x4 (s.gp x4))) := HMu2
        show Blk g M_X10_countAll (pM x0 h0 nx Q) 202 [(0, .ref x0), (1, .int (nI x1)), (2, .int (nI x2)), (4, .int (nI x4))] [] hu2 nx 0 0
        refine r_iincN 3 (b := 1) (L' := [(4, .int (nI (x4 + 1))), (0, .ref x0), (1, .int (nI x1)), (2, .int (nI x2))]) dX10_countAll_202 rfl rfl (by decide) rfl ?_
        refine r_goto (tgt := 156) dX10_countAll_205 (by decide) ?_
        exact Blk.sub [1, 2, 3, 0] rfl (V _ _ _ HOu2 HMu2)
      · have V := V.2 c
        refine r_iload_n 2 dX10_countAll_190 rfl rfl ?_
        refine r_goto (tgt := 201) dX10_countAll_191 (by decide) ?_
        obtain ⟨c, V⟩ := V
        refine r_iastN dX10_countAll_201 (MAt.g_gp HM) c (by decide) ?_
        obtain ⟨hu3, eu3, HMu3, HOu3⟩ := mo_gp HM HO (va_up s.gp x4 x2)
        refine Blk.eqs ?_ rfl rfl eu3
        replace HMu3 : MAt hu3 x0 (MV.u_gp s (va_up s.gp x4 x2)) := HMu3
        show Blk g M_X10_countAll (pM x0 h0 nx Q) 202 [(0, .ref x0), (1, .int (nI x1)), (2, .int (nI x2)), (4, .int (nI x4))] [] hu3 nx 0 0
        refine r_iincN 3 (b := 1) (L' := [(4, .int (nI (x4 + 1))), (0, .ref x0), (1, .int (nI x1)), (2, .int (nI x2))]) dX10_countAll_202 rfl rfl (by decide) rfl ?_
        refine r_goto (tgt := 156) dX10_countAll_205 (by decide) ?_
        exact Blk.sub [1, 2, 3, 0] rfl (V _ _ _ HOu3 HMu3)
set_option maxRecDepth 20000 in
theorem v_X10_movesFrom_0 {g : xG} {Q : mQ} {s : MV} {x0 : Nat} {x1 : Nat} (V : BlkM g M_X10_movesFrom x0 Q 4 [(0, .ref x0), (1, .int (nI x1)), (2, .int (nI 0)), (3, .int (nI 0))] [] s) : BlkM g M_X10_movesFrom x0 Q 0 [(0, .ref x0), (1, .int (nI x1))] [] s := by
  intro h0 h nx HO HM
  refine r_iconst (v := (nI 0)) dX10_movesFrom_0 rfl ?_
  refine r_istore_n (L' := [(2, .int (nI 0)), (0, .ref x0), (1, .int (nI x1))]) dX10_movesFrom_1 rfl (by decide) rfl ?_
  refine r_iconst (v := (nI 0)) dX10_movesFrom_2 rfl ?_
  refine r_istore_n (L' := [(3, .int (nI 0)), (2, .int (nI 0)), (0, .ref x0), (1, .int (nI x1))]) dX10_movesFrom_3 rfl (by decide) rfl ?_
  exact Blk.sub [2, 3, 1, 0] rfl (V _ _ _ HO HM)
set_option maxRecDepth 20000 in
theorem v_X10_movesFrom_4 {g : xG} {Q : mQ} {s : MV} {x0 : Nat} {x1 : Nat} {x2 : Nat} {x3 : Nat} (V : ((x3 < 2 ^ 31 ∧ s.n < 2 ^ 31) ∧ ((s.n ≤ x3 → (Q (some (.int (nI x2))) s)) ∧ (x3 < s.n → (((6 * x1) + x3) < 36 ∧ BlkM g M_X10_movesFrom x0 Q 4 [(0, .ref x0), (1, .int (nI x1)), (2, .int (nI (x2 + (s.ct ((6 * x1) + x3))))), (3, .int (nI (x3 + 1)))] [] s))))) : BlkM g M_X10_movesFrom x0 Q 4 [(0, .ref x0), (1, .int (nI x1)), (2, .int (nI x2)), (3, .int (nI x3))] [] s := by
  intro h0 h nx HO HM
  refine r_iload_n 3 dX10_movesFrom_4 rfl rfl ?_
  refine r_aload_n 0 dX10_movesFrom_5 rfl rfl ?_
  refine r_getf (ci := 11) (kf := 1) (T := TX10) rfl in_X10 (by decide) wF_X10_75 dX10_movesFrom_6 (MAt.o_ HM) rfl ?_
  obtain ⟨c, V⟩ := V
  refine r_icmp_geN (tgt := 32) dX10_movesFrom_9 (by decide) c (fun c => ?_) (fun c => ?_)
  · have V := V.1 c
    refine r_iload_n 2 dX10_movesFrom_32 rfl rfl ?_
    exact r_iret dX10_movesFrom_33 rfl (by decide) (by decide) ⟨rfl, HO, _, HM, V⟩
  · have V := V.2 c
    refine r_iload_n 2 dX10_movesFrom_12 rfl rfl ?_
    refine r_aload_n 0 dX10_movesFrom_13 rfl rfl ?_
    refine r_getf (ci := 11) (kf := 16) (T := TX10) rfl in_X10 (by decide) wF_X10_31 dX10_movesFrom_14 (MAt.o_ HM) rfl ?_
    refine r_bipush (v := (nI 6)) dX10_movesFrom_17 rfl ?_
    refine r_iload_n 1 dX10_movesFrom_19 rfl rfl ?_
    refine r_imulN dX10_movesFrom_20 ?_
    refine r_iload_n 3 dX10_movesFrom_21 rfl rfl ?_
    refine r_iaddN dX10_movesFrom_22 ?_
    obtain ⟨c, V⟩ := V
    refine r_iald dX10_movesFrom_23 (MAt.g_ct HM) rfl c (by decide) ?_
    show Blk g M_X10_movesFrom (pM x0 h0 nx Q) 24 [(0, .ref x0), (1, .int (nI x1)), (2, .int (nI x2)), (3, .int (nI x3))] [.int (nI (s.ct ((6 * x1) + x3))), .int (nI x2)] h nx 0 0
    refine r_iaddN dX10_movesFrom_24 ?_
    refine r_istore_n (L' := [(2, .int (nI (x2 + (s.ct ((6 * x1) + x3))))), (0, .ref x0), (1, .int (nI x1)), (3, .int (nI x3))]) dX10_movesFrom_25 rfl (by decide) rfl ?_
    refine r_iincN 3 (b := 1) (L' := [(3, .int (nI (x3 + 1))), (2, .int (nI (x2 + (s.ct ((6 * x1) + x3))))), (0, .ref x0), (1, .int (nI x1))]) dX10_movesFrom_26 rfl rfl (by decide) rfl ?_
    refine r_goto (tgt := 4) dX10_movesFrom_29 (by decide) ?_
    exact Blk.sub [2, 3, 1, 0] rfl (V _ _ _ HO HM)
set_option maxRecDepth 20000 in
theorem v_X10_count_0 {g : xG} {Q : mQ} {s : MV} {x0 : Nat} {x1 : Int32} {x2 : Int32} (V : (CtM g M_X10_isState [.ref x0, .int x1] x0 s (fun r s3 => ∃ v4 : Nat, r = some (.int (nI v4)) ∧ (v4 < 2 ^ 31 ∧ ((v4 = 0 → (Q (some (.int (nI 0))) (MV.u_cd s3 1))) ∧ (¬ v4 = 0 → (CtM g M_X10_isState [.ref x0, .int x2] x0 s3 (fun r s8 => ∃ v9 : Nat, r = some (.int (nI v9)) ∧ (v9 < 2 ^ 31 ∧ ((v9 = 0 → (Q (some (.int (nI 0))) (MV.u_cd s8 1))) ∧ (¬ v9 = 0 → (CtM g M_X10_countAll [.ref x0] x0 (MV.u_cd s8 0) (fun r s14 => r = none ∧ (∃ j15 : Nat, (((nI 6) * x1) + x2) = nI j15 ∧ j15 < 36 ∧ (Q (some (.int (nI (s14.ct j15)))) s14))))))))))))))) : BlkM g M_X10_count x0 Q 0 [(0, .ref x0), (1, .int x1), (2, .int x2)] [] s := by
  intro h0 h nx HO HM
  refine r_aload_n 0 dX10_count_0 rfl rfl ?_
  refine r_aload_n 0 dX10_count_1 rfl rfl ?_
  refine r_iload_n 1 dX10_count_2 rfl rfl ?_
  refine r_callV (M2 := M_X10_isState) (ci := 11) (n := 1) (As := [.int x1]) rfl (wl5 wM_X10_108 wi_X10_isState wS_X10_isState wI_StateSharesModel wc_X10_isState) (by decide +kernel) (by decide) rfl rfl (Nat.le_of_ble_eq_true rfl) dX10_count_3 (MAt.o_ HM) (by decide) (by decide) (Ct.imp (V _ _ HM) (fun r h1 n2 V => ?_))
  obtain ⟨rfl, Oh1, s3, HMh1, V⟩ := V
  have HOh1 := Off.tr HO Oh1
  obtain ⟨v4, rfl, V⟩ := V
  show Blk g M_X10_count (pM x0 h0 nx Q) 6 [(0, .ref x0), (1, .int x1), (2, .int x2)] [.int (nI v4), .ref x0] h1 nx 0 0
  obtain ⟨c, V⟩ := V
  refine r_if_eqN (tgt := 21) dX10_count_6 (by decide) c (fun c => ?_) (fun c => ?_)
  · have V := V.1 c
    refine r_iconst (v := (nI 1)) dX10_count_21 rfl ?_
    refine r_putf (ci := 11) (kf := 0) (T := TX10) rfl in_X10 tyX10_ok nmX10 (by decide) wF_X10_91 rfl (tyX10_ok 0 (by decide)) dX10_count_22 (MAt.o_ HMh1) (Nat.le_of_ble_eq_true rfl) rfl rfl ?_
    obtain ⟨hu5, eu5, HMu5, HOu5⟩ := mo_o HMh1 HOh1 1 s3.n s3.sz s3.wn s3.at_ s3.wr s3.ru s3.dn s3.lm s3.st s3.fr s3.up
    refine Blk.eqs ?_ rfl rfl eu5
    replace HMu5 : MAt hu5 x0 (MV.u_cd s3 1) := HMu5
    show Blk g M_X10_count (pM x0 h0 nx Q) 25 [(0, .ref x0), (1, .int x1), (2, .int x2)] [] hu5 nx 0 0
    refine r_aload_n 0 dX10_count_25 rfl rfl ?_
    refine r_getf (ci := 11) (kf := 0) (T := TX10) rfl in_X10 (by decide) wF_X10_91 dX10_count_26 (MAt.o_ HMu5) rfl ?_
    show Blk g M_X10_count (pM x0 h0 nx Q) 29 [(0, .ref x0), (1, .int x1), (2, .int x2)] [.int (nI 1)] hu5 nx 0 0
    refine r_if_leN (tgt := 34) dX10_count_29 (by decide) (by decide) (fun c => absurd c (by decide)) (fun _ => ?_)
    refine r_iconst (v := (nI 0)) dX10_count_32 rfl ?_
    exact r_iret dX10_count_33 rfl (by decide) (by decide) ⟨rfl, HOu5, _, HMu5, V⟩
  · have V := V.2 c
    refine r_aload_n 0 dX10_count_9 rfl rfl ?_
    refine r_iload_n 2 dX10_count_10 rfl rfl ?_
    refine r_callV (M2 := M_X10_isState) (ci := 11) (n := 1) (As := [.int x2]) rfl (wl5 wM_X10_108 wi_X10_isState wS_X10_isState wI_StateSharesModel wc_X10_isState) (by decide +kernel) (by decide) rfl rfl (Nat.le_of_ble_eq_true rfl) dX10_count_11 (MAt.o_ HMh1) (by decide) (by decide) (Ct.imp (V _ _ HMh1) (fun r h6 n7 V => ?_))
    obtain ⟨rfl, Oh6, s8, HMh6, V⟩ := V
    have HOh6 := Off.tr HOh1 Oh6
    obtain ⟨v9, rfl, V⟩ := V
    show Blk g M_X10_count (pM x0 h0 nx Q) 14 [(0, .ref x0), (1, .int x1), (2, .int x2)] [.int (nI v9), .ref x0] h6 nx 0 0
    obtain ⟨c, V⟩ := V
    refine r_if_eqN (tgt := 21) dX10_count_14 (by decide) c (fun c => ?_) (fun c => ?_)
    · have V := V.1 c
      refine r_iconst (v := (nI 1)) dX10_count_21 rfl ?_
      refine r_putf (ci := 11) (kf := 0) (T := TX10) rfl in_X10 tyX10_ok nmX10 (by decide) wF_X10_91 rfl (tyX10_ok 0 (by decide)) dX10_count_22 (MAt.o_ HMh6) (Nat.le_of_ble_eq_true rfl) rfl rfl ?_
      obtain ⟨hu10, eu10, HMu10, HOu10⟩ := mo_o HMh6 HOh6 1 s8.n s8.sz s8.wn s8.at_ s8.wr s8.ru s8.dn s8.lm s8.st s8.fr s8.up
      refine Blk.eqs ?_ rfl rfl eu10
      replace HMu10 : MAt hu10 x0 (MV.u_cd s8 1) := HMu10
      show Blk g M_X10_count (pM x0 h0 nx Q) 25 [(0, .ref x0), (1, .int x1), (2, .int x2)] [] hu10 nx 0 0
      refine r_aload_n 0 dX10_count_25 rfl rfl ?_
      refine r_getf (ci := 11) (kf := 0) (T := TX10) rfl in_X10 (by decide) wF_X10_91 dX10_count_26 (MAt.o_ HMu10) rfl ?_
      show Blk g M_X10_count (pM x0 h0 nx Q) 29 [(0, .ref x0), (1, .int x1), (2, .int x2)] [.int (nI 1)] hu10 nx 0 0
      refine r_if_leN (tgt := 34) dX10_count_29 (by decide) (by decide) (fun c => absurd c (by decide)) (fun _ => ?_)
      refine r_iconst (v := (nI 0)) dX10_count_32 rfl ?_
      exact r_iret dX10_count_33 rfl (by decide) (by decide) ⟨rfl, HOu10, _, HMu10, V⟩
    · have V := V.2 c
      refine r_iconst (v := (nI 0)) dX10_count_17 rfl ?_
      refine r_goto (tgt := 22) dX10_count_18 (by decide) ?_
      refine r_putf (ci := 11) (kf := 0) (T := TX10) rfl in_X10 tyX10_ok nmX10 (by decide) wF_X10_91 rfl (tyX10_ok 0 (by decide)) dX10_count_22 (MAt.o_ HMh6) (Nat.le_of_ble_eq_true rfl) rfl rfl ?_
      obtain ⟨hu11, eu11, HMu11, HOu11⟩ := mo_o HMh6 HOh6 0 s8.n s8.sz s8.wn s8.at_ s8.wr s8.ru s8.dn s8.lm s8.st s8.fr s8.up
      refine Blk.eqs ?_ rfl rfl eu11
      replace HMu11 : MAt hu11 x0 (MV.u_cd s8 0) := HMu11
      show Blk g M_X10_count (pM x0 h0 nx Q) 25 [(0, .ref x0), (1, .int x1), (2, .int x2)] [] hu11 nx 0 0
      refine r_aload_n 0 dX10_count_25 rfl rfl ?_
      refine r_getf (ci := 11) (kf := 0) (T := TX10) rfl in_X10 (by decide) wF_X10_91 dX10_count_26 (MAt.o_ HMu11) rfl ?_
      show Blk g M_X10_count (pM x0 h0 nx Q) 29 [(0, .ref x0), (1, .int x1), (2, .int x2)] [.int (nI 0)] hu11 nx 0 0
      refine r_if_leN (tgt := 34) dX10_count_29 (by decide) (by decide) (fun _ => ?_) (fun c => absurd c (by decide))
      refine r_aload_n 0 dX10_count_34 rfl rfl ?_
      refine r_callV (M2 := M_X10_countAll) (ci := 11) (n := 0) (As := []) rfl (wl5 wM_X10_194 wi_X10_countAll wS_X10_countAll wI_StateSharesModel wc_X10_countAll) (by decide +kernel) (by decide) rfl rfl (Nat.le_of_ble_eq_true rfl) dX10_count_35 (MAt.o_ HMu11) (by decide) (by decide) (Ct.imp (V _ _ HMu11) (fun r h12 n13 V => ?_))
      obtain ⟨rfl, Oh12, s14, HMh12, V⟩ := V
      have HOh12 := Off.tr HOu11 Oh12
      obtain ⟨rfl, V⟩ := V
      show Blk g M_X10_count (pM x0 h0 nx Q) 38 [(0, .ref x0), (1, .int x1), (2, .int x2)] [] h12 nx 0 0
      refine r_aload_n 0 dX10_count_38 rfl rfl ?_
      refine r_getf (ci := 11) (kf := 16) (T := TX10) rfl in_X10 (by decide) wF_X10_31 dX10_count_39 (MAt.o_ HMh12) rfl ?_
      refine r_bipush (v := (nI 6)) dX10_count_42 rfl ?_
      refine r_iload_n 1 dX10_count_44 rfl rfl ?_
      refine r_imul dX10_count_45 ?_
      refine r_iload_n 2 dX10_count_46 rfl rfl ?_
      refine r_iadd dX10_count_47 ?_
      obtain ⟨j15, e16, V⟩ := V
      obtain ⟨c, V⟩ := V
      refine r_iald dX10_count_48 (MAt.g_ct HMh12) e16 c (by decide) ?_
      show Blk g M_X10_count (pM x0 h0 nx Q) 49 [(0, .ref x0), (1, .int x1), (2, .int x2)] [.int (nI (s14.ct j15))] h12 nx 0 0
      exact r_iret dX10_count_49 rfl (by decide) (by decide) ⟨rfl, HOh12, _, HMh12, V⟩
set_option maxRecDepth 20000 in
theorem v_X10_least_0 {g : xG} {Q : mQ} {s : MV} {x0 : Nat} {x1 : Int32} (V : (CtP g M_X10_in [.long (x1.toInt64), .long (lN 0), .long (lN 50)] (fun r => ∃ v4 : Nat, r = some (.int (nI v4)) ∧ (v4 < 2 ^ 31 ∧ ((¬ v4 = 0 → (∃ z5 : Nat, x1 = nI z5 ∧ (Q (some (.int (nI 1))) (MV.u_fr (MV.u_lm (MV.u_cd s 0) z5) 0)))) ∧ (v4 = 0 → (Q (some (.int (nI 0))) (MV.u_cd s 0)))))))) : BlkM g M_X10_least x0 Q 0 [(0, .ref x0), (1, .int x1)] [] s := by
  intro h0 h nx HO HM
  refine r_aload_n 0 dX10_least_0 rfl rfl ?_
  refine r_iconst (v := (nI 0)) dX10_least_1 rfl ?_
  refine r_putf (ci := 11) (kf := 0) (T := TX10) rfl in_X10 tyX10_ok nmX10 (by decide) wF_X10_91 rfl (tyX10_ok 0 (by decide)) dX10_least_2 (MAt.o_ HM) (Nat.le_of_ble_eq_true rfl) rfl rfl ?_
  obtain ⟨hu1, eu1, HMu1, HOu1⟩ := mo_o HM HO 0 s.n s.sz s.wn s.at_ s.wr s.ru s.dn s.lm s.st s.fr s.up
  refine Blk.eqs ?_ rfl rfl eu1
  replace HMu1 : MAt hu1 x0 (MV.u_cd s 0) := HMu1
  show Blk g M_X10_least (pM x0 h0 nx Q) 5 [(0, .ref x0), (1, .int x1)] [] hu1 nx 0 0
  refine r_iload_n 1 dX10_least_5 rfl rfl ?_
  refine r_i2l dX10_least_6 ?_
  refine r_lconst (v := (lN 0)) dX10_least_7 rfl ?_
  refine r_ldc2 (v := (lN 50)) wL_X10_197 dX10_least_8 ?_
  refine r_callS (M2 := M_X10_in) (n := 3) (As := [.long (x1.toInt64), .long (lN 0), .long (lN 50)]) (wl4 wM_X10_94 ws_X10_in wI_StateSharesModel wc_X10_in) (by decide +kernel) (by decide) rfl rfl (Nat.le_of_ble_eq_true rfl) dX10_least_11 (by decide) (by decide) (Ct.imp (V _ _) (fun r h2 n3 V => ?_))
  obtain ⟨rfl, rfl, V⟩ := V
  obtain ⟨v4, rfl, V⟩ := V
  show Blk g M_X10_least (pM x0 h0 nx Q) 14 [(0, .ref x0), (1, .int x1)] [.int (nI v4)] hu1 nx 0 0
  obtain ⟨c, V⟩ := V
  refine r_if_neN (tgt := 19) dX10_least_14 (by decide) c (fun c => ?_) (fun c => ?_)
  · have V := V.1 c
    refine r_aload_n 0 dX10_least_19 rfl rfl ?_
    refine r_iload_n 1 dX10_least_20 rfl rfl ?_
    obtain ⟨z5, e6, V⟩ := V
    refine Blk.to (st' := [.int (nI z5), .ref x0]) ?_ ⟨rfl, by rw [e6], rfl⟩
    refine r_putf (ci := 11) (kf := 15) (T := TX10) rfl in_X10 tyX10_ok nmX10 (by decide) wF_X10_191 rfl (tyX10_ok 15 (by decide)) dX10_least_21 (MAt.o_ HMu1) (Nat.le_of_ble_eq_true rfl) rfl rfl ?_
    obtain ⟨hu7, eu7, HMu7, HOu7⟩ := mo_o HMu1 HOu1 0 s.n s.sz s.wn s.at_ s.wr s.ru s.dn z5 s.st s.fr s.up
    refine Blk.eqs ?_ rfl rfl eu7
    replace HMu7 : MAt hu7 x0 (MV.u_lm (MV.u_cd s 0) z5) := HMu7
    show Blk g M_X10_least (pM x0 h0 nx Q) 24 [(0, .ref x0), (1, .int x1)] [] hu7 nx 0 0
    refine r_aload_n 0 dX10_least_24 rfl rfl ?_
    refine r_iconst (v := (nI 0)) dX10_least_25 rfl ?_
    refine r_putf (ci := 11) (kf := 31) (T := TX10) rfl in_X10 tyX10_ok nmX10 (by decide) wF_X10_116 rfl (tyX10_ok 31 (by decide)) dX10_least_26 (MAt.o_ HMu7) (Nat.le_of_ble_eq_true rfl) rfl rfl ?_
    obtain ⟨hu8, eu8, HMu8, HOu8⟩ := mo_o HMu7 HOu7 0 s.n s.sz s.wn s.at_ s.wr s.ru s.dn z5 s.st 0 s.up
    refine Blk.eqs ?_ rfl rfl eu8
    replace HMu8 : MAt hu8 x0 (MV.u_fr (MV.u_lm (MV.u_cd s 0) z5) 0) := HMu8
    show Blk g M_X10_least (pM x0 h0 nx Q) 29 [(0, .ref x0), (1, .int x1)] [] hu8 nx 0 0
    refine r_iconst (v := (nI 1)) dX10_least_29 rfl ?_
    exact r_zret (ty := .boolean) dX10_least_30 rfl rfl (by decide) (by decide) ⟨rfl, HOu8, _, HMu8, V⟩
  · have V := V.2 c
    refine r_iconst (v := (nI 0)) dX10_least_17 rfl ?_
    exact r_zret (ty := .boolean) dX10_least_18 rfl rfl (by decide) (by decide) ⟨rfl, HOu1, _, HMu1, V⟩
set_option maxRecDepth 20000 in
theorem v_X10_shifted_0 {g : xG} {Q : mQ} {s : MV} {x0 : Nat} {x1 : Nat} {x2 : Int32} (V : BlkM g M_X10_shifted x0 Q 5 [(0, .ref x0), (1, .int (nI x1)), (2, .int x2), (3, .int (nI 0)), (4, .int (nI 0))] [] s) : BlkM g M_X10_shifted x0 Q 0 [(0, .ref x0), (1, .int (nI x1)), (2, .int x2)] [] s := by
  intro h0 h nx HO HM
  refine r_iconst (v := (nI 0)) dX10_shifted_0 rfl ?_
  refine r_istore_n (L' := [(3, .int (nI 0)), (0, .ref x0), (1, .int (nI x1)), (2, .int x2)]) dX10_shifted_1 rfl (by decide) rfl ?_
  refine r_iconst (v := (nI 0)) dX10_shifted_2 rfl ?_
  refine r_istore (L' := [(4, .int (nI 0)), (3, .int (nI 0)), (0, .ref x0), (1, .int (nI x1)), (2, .int x2)]) dX10_shifted_3 (by decide) rfl ?_
  exact Blk.sub [2, 3, 4, 1, 0] rfl (V _ _ _ HO HM)
set_option maxRecDepth 20000 in
theorem v_X10_shifted_5 {g : xG} {Q : mQ} {s : MV} {x0 : Nat} {x1 : Nat} {x2 : Int32} {x3 : Nat} {x4 : Nat} (V : ((x4 < 2 ^ 31 ∧ s.n < 2 ^ 31) ∧ ((s.n ≤ x4 → (Q (some (.int (nI x3))) s)) ∧ (x4 < s.n → (x4 < 6 ∧ (x1 < 6 ∧ (((s.gp x4) < 2 ^ 31 ∧ (s.gp x1) < 2 ^ 31) ∧ ((¬ (s.gp x4) = (s.gp x1) → BlkM g M_X10_shifted x0 Q 5 [(0, .ref x0), (1, .int (nI x1)), (2, .int x2), (3, .int (nI (x3 + 0))), (4, .int (nI (x4 + 1)))] [] s) ∧ ((s.gp x4) = (s.gp x1) → (CtM g M_X10_isState [.ref x0, .int ((nI x4) + x2)] x0 s (fun r s3 => ∃ v4 : Nat, r = some (.int (nI v4)) ∧ (v4 < 2 ^ 31 ∧ ((v4 = 0 → BlkM g M_X10_shifted x0 Q 5 [(0, .ref x0), (1, .int (nI x1)), (2, .int x2), (3, .int (nI (x3 + 0))), (4, .int (nI (x4 + 1)))] [] s3) ∧ (¬ v4 = 0 → (∃ j5 : Nat, ((nI ((6 * x4) + x4)) + x2) = nI j5 ∧ j5 < 36 ∧ BlkM g M_X10_shifted x0 Q 5 [(0, .ref x0), (1, .int (nI x1)), (2, .int x2), (3, .int (nI (x3 + (s3.ct j5)))), (4, .int (nI (x4 + 1)))] [] s3))))))))))))))) : BlkM g M_X10_shifted x0 Q 5 [(0, .ref x0), (1, .int (nI x1)), (2, .int x2), (3, .int (nI x3)), (4, .int (nI x4))] [] s := by
  intro h0 h nx HO HM
  refine r_iload 4 dX10_shifted_5 rfl ?_
  refine r_aload_n 0 dX10_shifted_7 rfl rfl ?_
  refine r_getf (ci := 11) (kf := 1) (T := TX10) rfl in_X10 (by decide) wF_X10_75 dX10_shifted_8 (MAt.o_ HM) rfl ?_
  obtain ⟨c, V⟩ := V
  refine r_icmp_geN (tgt := 69) dX10_shifted_11 (by decide) c (fun c => ?_) (fun c => ?_)
  · have V := V.1 c
    refine r_iload_n 3 dX10_shifted_69 rfl rfl ?_
    exact r_iret dX10_shifted_70 rfl (by decide) (by decide) ⟨rfl, HO, _, HM, V⟩
  · have V := V.2 c
    refine r_iload_n 3 dX10_shifted_14 rfl rfl ?_
    refine r_aload_n 0 dX10_shifted_15 rfl rfl ?_
    refine r_getf (ci := 11) (kf := 17) (T := TX10) rfl in_X10 (by decide) wF_X10_34 dX10_shifted_16 (MAt.o_ HM) rfl ?_
    refine r_iload 4 dX10_shifted_19 rfl ?_
    obtain ⟨c, V⟩ := V
    refine r_iald dX10_shifted_21 (MAt.g_gp HM) rfl c (by decide) ?_
    show Blk g M_X10_shifted (pM x0 h0 nx Q) 22 [(0, .ref x0), (1, .int (nI x1)), (2, .int x2), (3, .int (nI x3)), (4, .int (nI x4))] [.int (nI (s.gp x4)), .int (nI x3)] h nx 0 0
    refine r_aload_n 0 dX10_shifted_22 rfl rfl ?_
    refine r_getf (ci := 11) (kf := 17) (T := TX10) rfl in_X10 (by decide) wF_X10_34 dX10_shifted_23 (MAt.o_ HM) rfl ?_
    refine r_iload_n 1 dX10_shifted_26 rfl rfl ?_
    obtain ⟨c, V⟩ := V
    refine r_iald dX10_shifted_27 (MAt.g_gp HM) rfl c (by decide) ?_
    show Blk g M_X10_shifted (pM x0 h0 nx Q) 28 [(0, .ref x0), (1, .int (nI x1)), (2, .int x2), (3, .int (nI x3)), (4, .int (nI x4))] [.int (nI (s.gp x1)), .int (nI (s.gp x4)), .int (nI x3)] h nx 0 0
    obtain ⟨c, V⟩ := V
    refine r_icmp_neN (tgt := 60) dX10_shifted_28 (by decide) c (fun c => ?_) (fun c => ?_)
    · have V := V.1 c
      refine r_iconst (v := (nI 0)) dX10_shifted_60 rfl ?_
      refine r_iaddN dX10_shifted_61 ?_
      refine r_istore_n (L' := [(3, .int (nI (x3 + 0))), (0, .ref x0), (1, .int (nI x1)), (2, .int x2), (4, .int (nI x4))]) dX10_shifted_62 rfl (by decide) rfl ?_
      refine r_iincN 4 (b := 1) (L' := [(4, .int (nI (x4 + 1))), (3, .int (nI (x3 + 0))), (0, .ref x0), (1, .int (nI x1)), (2, .int x2)]) dX10_shifted_63 rfl rfl (by decide) rfl ?_
      refine r_goto (tgt := 5) dX10_shifted_66 (by decide) ?_
      exact Blk.sub [2, 3, 4, 1, 0] rfl (V _ _ _ HO HM)
    · have V := V.2 c
      refine r_aload_n 0 dX10_shifted_31 rfl rfl ?_
      refine r_iload 4 dX10_shifted_32 rfl ?_
      refine r_iload_n 2 dX10_shifted_34 rfl rfl ?_
      refine r_iadd dX10_shifted_35 ?_
      refine r_callV (M2 := M_X10_isState) (ci := 11) (n := 1) (As := [.int ((nI x4) + x2)]) rfl (wl5 wM_X10_108 wi_X10_isState wS_X10_isState wI_StateSharesModel wc_X10_isState) (by decide +kernel) (by decide) rfl rfl (Nat.le_of_ble_eq_true rfl) dX10_shifted_36 (MAt.o_ HM) (by decide) (by decide) (Ct.imp (V _ _ HM) (fun r h1 n2 V => ?_))
      obtain ⟨rfl, Oh1, s3, HMh1, V⟩ := V
      have HOh1 := Off.tr HO Oh1
      obtain ⟨v4, rfl, V⟩ := V
      show Blk g M_X10_shifted (pM x0 h0 nx Q) 39 [(0, .ref x0), (1, .int (nI x1)), (2, .int x2), (3, .int (nI x3)), (4, .int (nI x4))] [.int (nI v4), .int (nI x3)] h1 nx 0 0
      obtain ⟨c, V⟩ := V
      refine r_if_eqN (tgt := 60) dX10_shifted_39 (by decide) c (fun c => ?_) (fun c => ?_)
      · have V := V.1 c
        refine r_iconst (v := (nI 0)) dX10_shifted_60 rfl ?_
        refine r_iaddN dX10_shifted_61 ?_
        refine r_istore_n (L' := [(3, .int (nI (x3 + 0))), (0, .ref x0), (1, .int (nI x1)), (2, .int x2), (4, .int (nI x4))]) dX10_shifted_62 rfl (by decide) rfl ?_
        refine r_iincN 4 (b := 1) (L' := [(4, .int (nI (x4 + 1))), (3, .int (nI (x3 + 0))), (0, .ref x0), (1, .int (nI x1)), (2, .int x2)]) dX10_shifted_63 rfl rfl (by decide) rfl ?_
        refine r_goto (tgt := 5) dX10_shifted_66 (by decide) ?_
        exact Blk.sub [2, 3, 4, 1, 0] rfl (V _ _ _ HOh1 HMh1)
      · have V := V.2 c
        refine r_aload_n 0 dX10_shifted_42 rfl rfl ?_
        refine r_getf (ci := 11) (kf := 16) (T := TX10) rfl in_X10 (by decide) wF_X10_31 dX10_shifted_43 (MAt.o_ HMh1) rfl ?_
        refine r_bipush (v := (nI 6)) dX10_shifted_46 rfl ?_
        refine r_iload 4 dX10_shifted_48 rfl ?_
        refine r_imulN dX10_shifted_50 ?_
        refine r_iload 4 dX10_shifted_51 rfl ?_
        refine r_iaddN dX10_shifted_53 ?_
        refine r_iload_n 2 dX10_shifted_54 rfl rfl ?_
        refine r_iadd dX10_shifted_55 ?_
        obtain ⟨j5, e6, V⟩ := V
        obtain ⟨c, V⟩ := V
        refine r_iald dX10_shifted_56 (MAt.g_ct HMh1) e6 c (by decide) ?_
        show Blk g M_X10_shifted (pM x0 h0 nx Q) 57 [(0, .ref x0), (1, .int (nI x1)), (2, .int x2), (3, .int (nI x3)), (4, .int (nI x4))] [.int (nI (s3.ct j5)), .int (nI x3)] h1 nx 0 0
        refine r_goto (tgt := 61) dX10_shifted_57 (by decide) ?_
        refine r_iaddN dX10_shifted_61 ?_
        refine r_istore_n (L' := [(3, .int (nI (x3 + (s3.ct j5)))), (0, .ref x0), (1, .int (nI x1)), (2, .int x2), (4, .int (nI x4))]) dX10_shifted_62 rfl (by decide) rfl ?_
        refine r_iincN 4 (b := 1) (L' := [(4, .int (nI (x4 + 1))), (3, .int (nI (x3 + (s3.ct j5)))), (0, .ref x0), (1, .int (nI x1)), (2, .int x2)]) dX10_shifted_63 rfl rfl (by decide) rfl ?_
        refine r_goto (tgt := 5) dX10_shifted_66 (by decide) ?_
        exact Blk.sub [2, 3, 4, 1, 0] rfl (V _ _ _ HOh1 HMh1)
set_option maxRecDepth 20000 in
theorem v_X10_shareTotal_0 {g : xG} {Q : mQ} {s : MV} {x0 : Nat} {x1 : Nat} (V : BlkM g M_X10_shareTotal x0 Q 4 [(0, .ref x0), (1, .int (nI x1)), (2, .int (nI 0)), (3, .int (nI 0))] [] s) : BlkM g M_X10_shareTotal x0 Q 0 [(0, .ref x0), (1, .int (nI x1))] [] s := by
  intro h0 h nx HO HM
  refine r_iconst (v := (nI 0)) dX10_shareTotal_0 rfl ?_
  refine r_istore_n (L' := [(2, .int (nI 0)), (0, .ref x0), (1, .int (nI x1))]) dX10_shareTotal_1 rfl (by decide) rfl ?_
  refine r_iconst (v := (nI 0)) dX10_shareTotal_2 rfl ?_
  refine r_istore_n (L' := [(3, .int (nI 0)), (2, .int (nI 0)), (0, .ref x0), (1, .int (nI x1))]) dX10_shareTotal_3 rfl (by decide) rfl ?_
  exact Blk.sub [2, 3, 1, 0] rfl (V _ _ _ HO HM)
set_option maxRecDepth 20000 in
theorem v_X10_shareTotal_4 {g : xG} {Q : mQ} {s : MV} {x0 : Nat} {x1 : Nat} {x2 : Nat} {x3 : Nat} (V : ((x3 < 2 ^ 31 ∧ s.n < 2 ^ 31) ∧ ((s.n ≤ x3 → (Q (some (.int (nI x2))) s)) ∧ (x3 < s.n → (CtM g M_X10_shifted [.ref x0, .int (nI x1), .int ((nI x3) - (nI x1))] x0 s (fun r s3 => ∃ v4 : Nat, r = some (.int (nI v4)) ∧ BlkM g M_X10_shareTotal x0 Q 4 [(0, .ref x0), (1, .int (nI x1)), (2, .int (nI (x2 + v4))), (3, .int (nI (x3 + 1)))] [] s3)))))) : BlkM g M_X10_shareTotal x0 Q 4 [(0, .ref x0), (1, .int (nI x1)), (2, .int (nI x2)), (3, .int (nI x3))] [] s := by
  intro h0 h nx HO HM
  refine r_iload_n 3 dX10_shareTotal_4 rfl rfl ?_
  refine r_aload_n 0 dX10_shareTotal_5 rfl rfl ?_
  refine r_getf (ci := 11) (kf := 1) (T := TX10) rfl in_X10 (by decide) wF_X10_75 dX10_shareTotal_6 (MAt.o_ HM) rfl ?_
  obtain ⟨c, V⟩ := V
  refine r_icmp_geN (tgt := 29) dX10_shareTotal_9 (by decide) c (fun c => ?_) (fun c => ?_)
  · have V := V.1 c
    refine r_iload_n 2 dX10_shareTotal_29 rfl rfl ?_
    exact r_iret dX10_shareTotal_30 rfl (by decide) (by decide) ⟨rfl, HO, _, HM, V⟩
  · have V := V.2 c
    refine r_iload_n 2 dX10_shareTotal_12 rfl rfl ?_
    refine r_aload_n 0 dX10_shareTotal_13 rfl rfl ?_
    refine r_iload_n 1 dX10_shareTotal_14 rfl rfl ?_
    refine r_iload_n 3 dX10_shareTotal_15 rfl rfl ?_
    refine r_iload_n 1 dX10_shareTotal_16 rfl rfl ?_
    refine r_isub dX10_shareTotal_17 ?_
    refine r_callV (M2 := M_X10_shifted) (ci := 11) (n := 2) (As := [.int (nI x1), .int ((nI x3) - (nI x1))]) rfl (wl5 wM_X10_199 wi_X10_shifted wS_X10_shifted wI_StateSharesModel wc_X10_shifted) (by decide +kernel) (by decide) rfl rfl (Nat.le_of_ble_eq_true rfl) dX10_shareTotal_18 (MAt.o_ HM) (by decide) (by decide) (Ct.imp (V _ _ HM) (fun r h1 n2 V => ?_))
    obtain ⟨rfl, Oh1, s3, HMh1, V⟩ := V
    have HOh1 := Off.tr HO Oh1
    obtain ⟨v4, rfl, V⟩ := V
    show Blk g M_X10_shareTotal (pM x0 h0 nx Q) 21 [(0, .ref x0), (1, .int (nI x1)), (2, .int (nI x2)), (3, .int (nI x3))] [.int (nI v4), .int (nI x2)] h1 nx 0 0
    refine r_iaddN dX10_shareTotal_21 ?_
    refine r_istore_n (L' := [(2, .int (nI (x2 + v4))), (0, .ref x0), (1, .int (nI x1)), (3, .int (nI x3))]) dX10_shareTotal_22 rfl (by decide) rfl ?_
    refine r_iincN 3 (b := 1) (L' := [(3, .int (nI (x3 + 1))), (2, .int (nI (x2 + v4))), (0, .ref x0), (1, .int (nI x1))]) dX10_shareTotal_23 rfl rfl (by decide) rfl ?_
    refine r_goto (tgt := 4) dX10_shareTotal_26 (by decide) ?_
    exact Blk.sub [2, 3, 1, 0] rfl (V _ _ _ HOh1 HMh1)
set_option maxRecDepth 20000 in
theorem v_X10_shareAbove_0 {g : xG} {Q : mQ} {s : MV} {x0 : Nat} {x1 : Nat} {x2 : Nat} (V : (CtM g M_X10_shareTotal [.ref x0, .int (nI x1)] x0 s (fun r s3 => ∃ v4 : Nat, r = some (.int (nI v4)) ∧ (v4 < 2 ^ 31 ∧ ((¬ v4 = 0 → (CtM g M_X10_shifted [.ref x0, .int (nI x1), .int ((nI x2) - (nI x1))] x0 s3 (fun r s7 => ∃ v8 : Nat, r = some (.int (nI v8)) ∧ (Q (some (.int (nI v8))) s7)))) ∧ (v4 = 0 → ((x1 < 2 ^ 31 ∧ x2 < 2 ^ 31) ∧ ((¬ x1 = x2 → (Q (some (.int (nI 0))) s3)) ∧ (x1 = x2 → (Q (some (.int (nI 1))) s3)))))))))) : BlkM g M_X10_shareAbove x0 Q 0 [(0, .ref x0), (1, .int (nI x1)), (2, .int (nI x2))] [] s := by
  intro h0 h nx HO HM
  refine r_aload_n 0 dX10_shareAbove_0 rfl rfl ?_
  refine r_iload_n 1 dX10_shareAbove_1 rfl rfl ?_
  refine r_callV (M2 := M_X10_shareTotal) (ci := 11) (n := 1) (As := [.int (nI x1)]) rfl (wl5 wM_X10_202 wi_X10_shareTotal wS_X10_shareTotal wI_StateSharesModel wc_X10_shareTotal) (by decide +kernel) (by decide) rfl rfl (Nat.le_of_ble_eq_true rfl) dX10_shareAbove_2 (MAt.o_ HM) (by decide) (by decide) (Ct.imp (V _ _ HM) (fun r h1 n2 V => ?_))
  obtain ⟨rfl, Oh1, s3, HMh1, V⟩ := V
  have HOh1 := Off.tr HO Oh1
  obtain ⟨v4, rfl, V⟩ := V
  show Blk g M_X10_shareAbove (pM x0 h0 nx Q) 5 [(0, .ref x0), (1, .int (nI x1)), (2, .int (nI x2))] [.int (nI v4)] h1 nx 0 0
  obtain ⟨c, V⟩ := V
  refine r_if_neN (tgt := 21) dX10_shareAbove_5 (by decide) c (fun c => ?_) (fun c => ?_)
  · have V := V.1 c
    refine r_aload_n 0 dX10_shareAbove_21 rfl rfl ?_
    refine r_iload_n 1 dX10_shareAbove_22 rfl rfl ?_
    refine r_iload_n 2 dX10_shareAbove_23 rfl rfl ?_
    refine r_iload_n 1 dX10_shareAbove_24 rfl rfl ?_
    refine r_isub dX10_shareAbove_25 ?_
    refine r_callV (M2 := M_X10_shifted) (ci := 11) (n := 2) (As := [.int (nI x1), .int ((nI x2) - (nI x1))]) rfl (wl5 wM_X10_199 wi_X10_shifted wS_X10_shifted wI_StateSharesModel wc_X10_shifted) (by decide +kernel) (by decide) rfl rfl (Nat.le_of_ble_eq_true rfl) dX10_shareAbove_26 (MAt.o_ HMh1) (by decide) (by decide) (Ct.imp (V _ _ HMh1) (fun r h5 n6 V => ?_))
    obtain ⟨rfl, Oh5, s7, HMh5, V⟩ := V
    have HOh5 := Off.tr HOh1 Oh5
    obtain ⟨v8, rfl, V⟩ := V
    show Blk g M_X10_shareAbove (pM x0 h0 nx Q) 29 [(0, .ref x0), (1, .int (nI x1)), (2, .int (nI x2))] [.int (nI v8)] h5 nx 0 0
    exact r_iret dX10_shareAbove_29 rfl (by decide) (by decide) ⟨rfl, HOh5, _, HMh5, V⟩
  · have V := V.2 c
    refine r_iload_n 1 dX10_shareAbove_8 rfl rfl ?_
    refine r_iload_n 2 dX10_shareAbove_9 rfl rfl ?_
    obtain ⟨c, V⟩ := V
    refine r_icmp_neN (tgt := 17) dX10_shareAbove_10 (by decide) c (fun c => ?_) (fun c => ?_)
    · have V := V.1 c
      refine r_iconst (v := (nI 0)) dX10_shareAbove_17 rfl ?_
      refine r_goto (tgt := 29) dX10_shareAbove_18 (by decide) ?_
      exact r_iret dX10_shareAbove_29 rfl (by decide) (by decide) ⟨rfl, HOh1, _, HMh1, V⟩
    · have V := V.2 c
      refine r_iconst (v := (nI 1)) dX10_shareAbove_13 rfl ?_
      refine r_goto (tgt := 29) dX10_shareAbove_14 (by decide) ?_
      exact r_iret dX10_shareAbove_29 rfl (by decide) (by decide) ⟨rfl, HOh1, _, HMh1, V⟩
set_option maxRecDepth 20000 in
theorem v_X10_shareBelow_0 {g : xG} {Q : mQ} {s : MV} {x0 : Nat} {x1 : Nat} (V : (CtM g M_X10_shareTotal [.ref x0, .int (nI x1)] x0 s (fun r s3 => ∃ v4 : Nat, r = some (.int (nI v4)) ∧ (v4 < 2 ^ 31 ∧ ((¬ v4 = 0 → (CtM g M_X10_shareTotal [.ref x0, .int (nI x1)] x0 s3 (fun r s7 => ∃ v8 : Nat, r = some (.int (nI v8)) ∧ (Q (some (.int (nI v8))) s7)))) ∧ (v4 = 0 → (Q (some (.int (nI 1))) s3))))))) : BlkM g M_X10_shareBelow x0 Q 0 [(0, .ref x0), (1, .int (nI x1))] [] s := by
  intro h0 h nx HO HM
  refine r_aload_n 0 dX10_shareBelow_0 rfl rfl ?_
  refine r_iload_n 1 dX10_shareBelow_1 rfl rfl ?_
  refine r_callV (M2 := M_X10_shareTotal) (ci := 11) (n := 1) (As := [.int (nI x1)]) rfl (wl5 wM_X10_202 wi_X10_shareTotal wS_X10_shareTotal wI_StateSharesModel wc_X10_shareTotal) (by decide +kernel) (by decide) rfl rfl (Nat.le_of_ble_eq_true rfl) dX10_shareBelow_2 (MAt.o_ HM) (by decide) (by decide) (Ct.imp (V _ _ HM) (fun r h1 n2 V => ?_))
  obtain ⟨rfl, Oh1, s3, HMh1, V⟩ := V
  have HOh1 := Off.tr HO Oh1
  obtain ⟨v4, rfl, V⟩ := V
  show Blk g M_X10_shareBelow (pM x0 h0 nx Q) 5 [(0, .ref x0), (1, .int (nI x1))] [.int (nI v4)] h1 nx 0 0
  obtain ⟨c, V⟩ := V
  refine r_if_neN (tgt := 12) dX10_shareBelow_5 (by decide) c (fun c => ?_) (fun c => ?_)
  · have V := V.1 c
    refine r_aload_n 0 dX10_shareBelow_12 rfl rfl ?_
    refine r_iload_n 1 dX10_shareBelow_13 rfl rfl ?_
    refine r_callV (M2 := M_X10_shareTotal) (ci := 11) (n := 1) (As := [.int (nI x1)]) rfl (wl5 wM_X10_202 wi_X10_shareTotal wS_X10_shareTotal wI_StateSharesModel wc_X10_shareTotal) (by decide +kernel) (by decide) rfl rfl (Nat.le_of_ble_eq_true rfl) dX10_shareBelow_14 (MAt.o_ HMh1) (by decide) (by decide) (Ct.imp (V _ _ HMh1) (fun r h5 n6 V => ?_))
    obtain ⟨rfl, Oh5, s7, HMh5, V⟩ := V
    have HOh5 := Off.tr HOh1 Oh5
    obtain ⟨v8, rfl, V⟩ := V
    show Blk g M_X10_shareBelow (pM x0 h0 nx Q) 17 [(0, .ref x0), (1, .int (nI x1))] [.int (nI v8)] h5 nx 0 0
    exact r_iret dX10_shareBelow_17 rfl (by decide) (by decide) ⟨rfl, HOh5, _, HMh5, V⟩
  · have V := V.2 c
    refine r_iconst (v := (nI 1)) dX10_shareBelow_8 rfl ?_
    refine r_goto (tgt := 17) dX10_shareBelow_9 (by decide) ?_
    exact r_iret dX10_shareBelow_17 rfl (by decide) (by decide) ⟨rfl, HOh1, _, HMh1, V⟩
set_option maxRecDepth 20000 in
theorem v_X10_divisor_0 {g : xG} {Q : pQ} {x0 : Int64} {x2 : Int64} (V : (((lN 0) ≤ x0 → (((lN 0) ≤ x2 → (∃ z1 : Nat, x0 = lN z1 ∧ ∃ z3 : Nat, x2 = lN z3 ∧ BlkP g M_X10_divisor Q 28 [(4, .long (lN z1)), (6, .long (lN z3))] [])) ∧ (¬ (lN 0) ≤ x2 → (∃ z5 : Nat, x0 = lN z5 ∧ ∃ z7 : Nat, (-x2) = lN z7 ∧ BlkP g M_X10_divisor Q 28 [(4, .long (lN z5)), (6, .long (lN z7))] [])))) ∧ (¬ (lN 0) ≤ x0 → (((lN 0) ≤ x2 → (∃ z9 : Nat, (-x0) = lN z9 ∧ ∃ z11 : Nat, x2 = lN z11 ∧ BlkP g M_X10_divisor Q 28 [(4, .long (lN z9)), (6, .long (lN z11))] [])) ∧ (¬ (lN 0) ≤ x2 → (∃ z13 : Nat, (-x0) = lN z13 ∧ ∃ z15 : Nat, (-x2) = lN z15 ∧ BlkP g M_X10_divisor Q 28 [(4, .long (lN z13)), (6, .long (lN z15))] [])))))) : BlkP g M_X10_divisor Q 0 [(0, .long x0), (2, .long x2)] [] := by
  intro h nx
  refine r_lload_n 0 dX10_divisor_0 rfl rfl ?_
  refine r_lconst (v := (lN 0)) dX10_divisor_1 rfl ?_
  refine r_lcmp dX10_divisor_2 ?_
  refine r_if_ge (tgt := 11) dX10_divisor_3 (by decide) (fun c => ?_) (fun c => ?_)
  · have V := V.1 ((lg_cmp_ge _ _).mp c)
    refine r_lload_n 0 dX10_divisor_11 rfl rfl ?_
    refine r_lstore (L' := [(4, .long x0), (0, .long x0), (2, .long x2)]) dX10_divisor_12 (by decide) rfl ?_
    refine r_lload_n 2 dX10_divisor_14 rfl rfl ?_
    refine r_lconst (v := (lN 0)) dX10_divisor_15 rfl ?_
    refine r_lcmp dX10_divisor_16 ?_
    refine r_if_ge (tgt := 25) dX10_divisor_17 (by decide) (fun c => ?_) (fun c => ?_)
    · have V := V.1 ((lg_cmp_ge _ _).mp c)
      refine r_lload_n 2 dX10_divisor_25 rfl rfl ?_
      refine r_lstore (L' := [(6, .long x2), (4, .long x0), (0, .long x0), (2, .long x2)]) dX10_divisor_26 (by decide) rfl ?_
      obtain ⟨z1, e2, V⟩ := V
      obtain ⟨z3, e4, V⟩ := V
      exact Blk.sub (L' := [(4, .long (lN z1)), (6, .long (lN z3))]) [1, 0] (by rw [e2, e4]; rfl) (V _ _)
    · have V := V.2 (fun q => c ((lg_cmp_ge _ _).mpr q))
      refine r_lload_n 2 dX10_divisor_20 rfl rfl ?_
      refine r_lneg dX10_divisor_21 ?_
      refine r_goto (tgt := 26) dX10_divisor_22 (by decide) ?_
      refine r_lstore (L' := [(6, .long (-x2)), (4, .long x0), (0, .long x0), (2, .long x2)]) dX10_divisor_26 (by decide) rfl ?_
      obtain ⟨z5, e6, V⟩ := V
      obtain ⟨z7, e8, V⟩ := V
      exact Blk.sub (L' := [(4, .long (lN z5)), (6, .long (lN z7))]) [1, 0] (by rw [e6, e8]; rfl) (V _ _)
  · have V := V.2 (fun q => c ((lg_cmp_ge _ _).mpr q))
    refine r_lload_n 0 dX10_divisor_6 rfl rfl ?_
    refine r_lneg dX10_divisor_7 ?_
    refine r_goto (tgt := 12) dX10_divisor_8 (by decide) ?_
    refine r_lstore (L' := [(4, .long (-x0)), (0, .long x0), (2, .long x2)]) dX10_divisor_12 (by decide) rfl ?_
    refine r_lload_n 2 dX10_divisor_14 rfl rfl ?_
    refine r_lconst (v := (lN 0)) dX10_divisor_15 rfl ?_
    refine r_lcmp dX10_divisor_16 ?_
    refine r_if_ge (tgt := 25) dX10_divisor_17 (by decide) (fun c => ?_) (fun c => ?_)
    · have V := V.1 ((lg_cmp_ge _ _).mp c)
      refine r_lload_n 2 dX10_divisor_25 rfl rfl ?_
      refine r_lstore (L' := [(6, .long x2), (4, .long (-x0)), (0, .long x0), (2, .long x2)]) dX10_divisor_26 (by decide) rfl ?_
      obtain ⟨z9, e10, V⟩ := V
      obtain ⟨z11, e12, V⟩ := V
      exact Blk.sub (L' := [(4, .long (lN z9)), (6, .long (lN z11))]) [1, 0] (by rw [e10, e12]; rfl) (V _ _)
    · have V := V.2 (fun q => c ((lg_cmp_ge _ _).mpr q))
      refine r_lload_n 2 dX10_divisor_20 rfl rfl ?_
      refine r_lneg dX10_divisor_21 ?_
      refine r_goto (tgt := 26) dX10_divisor_22 (by decide) ?_
      refine r_lstore (L' := [(6, .long (-x2)), (4, .long (-x0)), (0, .long x0), (2, .long x2)]) dX10_divisor_26 (by decide) rfl ?_
      obtain ⟨z13, e14, V⟩ := V
      obtain ⟨z15, e16, V⟩ := V
      exact Blk.sub (L' := [(4, .long (lN z13)), (6, .long (lN z15))]) [1, 0] (by rw [e14, e16]; rfl) (V _ _)
set_option maxRecDepth 20000 in
theorem v_X10_divisor_28 {g : xG} {Q : pQ} {x4 : Nat} {x6 : Nat} (V : ((x6 < 2 ^ 63 ∧ 0 < 2 ^ 63) ∧ ((x6 = 0 → (Q (some (.long (lN x4))))) ∧ (¬ x6 = 0 → ((x4 < 2 ^ 63 ∧ 0 < x6 ∧ x6 < 2 ^ 63) ∧ BlkP g M_X10_divisor Q 28 [(4, .long (lN x6)), (6, .long (lN (x4 % x6)))] []))))) : BlkP g M_X10_divisor Q 28 [(4, .long (lN x4)), (6, .long (lN x6))] [] := by
  intro h nx
  refine r_lload 1 dX10_divisor_28 rfl ?_
  refine r_lconst (v := (lN 0)) dX10_divisor_30 rfl ?_
  obtain ⟨c, V⟩ := V
  refine r_lif_eq (tgt := 53) dX10_divisor_31 dX10_divisor_32 (by decide) c (fun c => ?_) (fun c => ?_)
  · have V := V.1 c
    refine r_lload 0 dX10_divisor_53 rfl ?_
    exact r_lret dX10_divisor_55 rfl (by decide) (by decide) ⟨rfl, rfl, V⟩
  · have V := V.2 c
    refine r_lload 0 dX10_divisor_35 rfl ?_
    refine r_lload 1 dX10_divisor_37 rfl ?_
    obtain ⟨c, V⟩ := V
    refine r_lremN dX10_divisor_39 c ?_
    refine r_lstore (L' := [(8, .long (lN (x4 % x6))), (4, .long (lN x4)), (6, .long (lN x6))]) dX10_divisor_40 (by decide) rfl ?_
    refine r_lload 2 dX10_divisor_42 rfl ?_
    refine r_lstore (L' := [(4, .long (lN x6)), (8, .long (lN (x4 % x6))), (6, .long (lN x6))]) dX10_divisor_44 (by decide) rfl ?_
    refine r_lload 1 dX10_divisor_46 rfl ?_
    refine r_lstore (L' := [(6, .long (lN (x4 % x6))), (4, .long (lN x6)), (8, .long (lN (x4 % x6)))]) dX10_divisor_48 (by decide) rfl ?_
    refine r_goto (tgt := 28) dX10_divisor_50 (by decide) ?_
    exact Blk.sub [1, 0] rfl (V _ _)
set_option maxRecDepth 20000 in
theorem v_X10_share_0 {g : xG} {Q : mQ} {s : MV} {x0 : Nat} {x1 : Int32} {x2 : Int32} {x3 : Int32} (V : (CtM g M_X10_isState [.ref x0, .int x1] x0 s (fun r s3 => ∃ v4 : Nat, r = some (.int (nI v4)) ∧ (v4 < 2 ^ 31 ∧ ((v4 = 0 → (Q (some (.long (lN 0))) (MV.u_cd s3 1))) ∧ (¬ v4 = 0 → (CtM g M_X10_isState [.ref x0, .int x2] x0 s3 (fun r s8 => ∃ v9 : Nat, r = some (.int (nI v9)) ∧ (v9 < 2 ^ 31 ∧ ((v9 = 0 → (Q (some (.long (lN 0))) (MV.u_cd s8 1))) ∧ (¬ v9 = 0 → (CtM g M_X10_countAll [.ref x0] x0 (MV.u_cd s8 0) (fun r s14 => r = none ∧ (CtM g M_X10_shareAbove [.ref x0, .int x1, .int x2] x0 s14 (fun r s17 => ∃ v18 : Nat, r = some (.int (nI v18)) ∧ (v18 < 2 ^ 31 ∧ (CtM g M_X10_shareBelow [.ref x0, .int x1] x0 s17 (fun r s21 => ∃ v22 : Nat, r = some (.int (nI v22)) ∧ (v22 < 2 ^ 31 ∧ (CtP g M_X10_divisor [.long (lN v18), .long (lN v22)] (fun r => ∃ v25 : Nat, r = some (.long (lN v25)) ∧ ((¬ x3 = 0 → ((¬ x3 = (nI 1) → (Q (some (.long (lN 0))) s21)) ∧ (x3 = (nI 1) → ((v22 < 2 ^ 63 ∧ 0 < v25 ∧ v25 < 2 ^ 63) ∧ (Q (some (.long (lN (v22 / v25)))) s21))))) ∧ (x3 = 0 → ((v18 < 2 ^ 63 ∧ 0 < v25 ∧ v25 < 2 ^ 63) ∧ (Q (some (.long (lN (v18 / v25)))) s21))))))))))))))))))))))))) : BlkM g M_X10_share x0 Q 0 [(0, .ref x0), (1, .int x1), (2, .int x2), (3, .int x3)] [] s := by
  intro h0 h nx HO HM
  refine r_aload_n 0 dX10_share_0 rfl rfl ?_
  refine r_aload_n 0 dX10_share_1 rfl rfl ?_
  refine r_iload_n 1 dX10_share_2 rfl rfl ?_
  refine r_callV (M2 := M_X10_isState) (ci := 11) (n := 1) (As := [.int x1]) rfl (wl5 wM_X10_108 wi_X10_isState wS_X10_isState wI_StateSharesModel wc_X10_isState) (by decide +kernel) (by decide) rfl rfl (Nat.le_of_ble_eq_true rfl) dX10_share_3 (MAt.o_ HM) (by decide) (by decide) (Ct.imp (V _ _ HM) (fun r h1 n2 V => ?_))
  obtain ⟨rfl, Oh1, s3, HMh1, V⟩ := V
  have HOh1 := Off.tr HO Oh1
  obtain ⟨v4, rfl, V⟩ := V
  show Blk g M_X10_share (pM x0 h0 nx Q) 6 [(0, .ref x0), (1, .int x1), (2, .int x2), (3, .int x3)] [.int (nI v4), .ref x0] h1 nx 0 0
  obtain ⟨c, V⟩ := V
  refine r_if_eqN (tgt := 21) dX10_share_6 (by decide) c (fun c => ?_) (fun c => ?_)
  · have V := V.1 c
    refine r_iconst (v := (nI 1)) dX10_share_21 rfl ?_
    refine r_putf (ci := 11) (kf := 0) (T := TX10) rfl in_X10 tyX10_ok nmX10 (by decide) wF_X10_91 rfl (tyX10_ok 0 (by decide)) dX10_share_22 (MAt.o_ HMh1) (Nat.le_of_ble_eq_true rfl) rfl rfl ?_
    obtain ⟨hu5, eu5, HMu5, HOu5⟩ := mo_o HMh1 HOh1 1 s3.n s3.sz s3.wn s3.at_ s3.wr s3.ru s3.dn s3.lm s3.st s3.fr s3.up
    refine Blk.eqs ?_ rfl rfl eu5
    replace HMu5 : MAt hu5 x0 (MV.u_cd s3 1) := HMu5
    show Blk g M_X10_share (pM x0 h0 nx Q) 25 [(0, .ref x0), (1, .int x1), (2, .int x2), (3, .int x3)] [] hu5 nx 0 0
    refine r_aload_n 0 dX10_share_25 rfl rfl ?_
    refine r_getf (ci := 11) (kf := 0) (T := TX10) rfl in_X10 (by decide) wF_X10_91 dX10_share_26 (MAt.o_ HMu5) rfl ?_
    show Blk g M_X10_share (pM x0 h0 nx Q) 29 [(0, .ref x0), (1, .int x1), (2, .int x2), (3, .int x3)] [.int (nI 1)] hu5 nx 0 0
    refine r_if_leN (tgt := 34) dX10_share_29 (by decide) (by decide) (fun c => absurd c (by decide)) (fun _ => ?_)
    refine r_lconst (v := (lN 0)) dX10_share_32 rfl ?_
    exact r_lret dX10_share_33 rfl (by decide) (by decide) ⟨rfl, HOu5, _, HMu5, V⟩
  · have V := V.2 c
    refine r_aload_n 0 dX10_share_9 rfl rfl ?_
    refine r_iload_n 2 dX10_share_10 rfl rfl ?_
    refine r_callV (M2 := M_X10_isState) (ci := 11) (n := 1) (As := [.int x2]) rfl (wl5 wM_X10_108 wi_X10_isState wS_X10_isState wI_StateSharesModel wc_X10_isState) (by decide +kernel) (by decide) rfl rfl (Nat.le_of_ble_eq_true rfl) dX10_share_11 (MAt.o_ HMh1) (by decide) (by decide) (Ct.imp (V _ _ HMh1) (fun r h6 n7 V => ?_))
    obtain ⟨rfl, Oh6, s8, HMh6, V⟩ := V
    have HOh6 := Off.tr HOh1 Oh6
    obtain ⟨v9, rfl, V⟩ := V
    show Blk g M_X10_share (pM x0 h0 nx Q) 14 [(0, .ref x0), (1, .int x1), (2, .int x2), (3, .int x3)] [.int (nI v9), .ref x0] h6 nx 0 0
    obtain ⟨c, V⟩ := V
    refine r_if_eqN (tgt := 21) dX10_share_14 (by decide) c (fun c => ?_) (fun c => ?_)
    · have V := V.1 c
      refine r_iconst (v := (nI 1)) dX10_share_21 rfl ?_
      refine r_putf (ci := 11) (kf := 0) (T := TX10) rfl in_X10 tyX10_ok nmX10 (by decide) wF_X10_91 rfl (tyX10_ok 0 (by decide)) dX10_share_22 (MAt.o_ HMh6) (Nat.le_of_ble_eq_true rfl) rfl rfl ?_
      obtain ⟨hu10, eu10, HMu10, HOu10⟩ := mo_o HMh6 HOh6 1 s8.n s8.sz s8.wn s8.at_ s8.wr s8.ru s8.dn s8.lm s8.st s8.fr s8.up
      refine Blk.eqs ?_ rfl rfl eu10
      replace HMu10 : MAt hu10 x0 (MV.u_cd s8 1) := HMu10
      show Blk g M_X10_share (pM x0 h0 nx Q) 25 [(0, .ref x0), (1, .int x1), (2, .int x2), (3, .int x3)] [] hu10 nx 0 0
      refine r_aload_n 0 dX10_share_25 rfl rfl ?_
      refine r_getf (ci := 11) (kf := 0) (T := TX10) rfl in_X10 (by decide) wF_X10_91 dX10_share_26 (MAt.o_ HMu10) rfl ?_
      show Blk g M_X10_share (pM x0 h0 nx Q) 29 [(0, .ref x0), (1, .int x1), (2, .int x2), (3, .int x3)] [.int (nI 1)] hu10 nx 0 0
      refine r_if_leN (tgt := 34) dX10_share_29 (by decide) (by decide) (fun c => absurd c (by decide)) (fun _ => ?_)
      refine r_lconst (v := (lN 0)) dX10_share_32 rfl ?_
      exact r_lret dX10_share_33 rfl (by decide) (by decide) ⟨rfl, HOu10, _, HMu10, V⟩
    · have V := V.2 c
      refine r_iconst (v := (nI 0)) dX10_share_17 rfl ?_
      refine r_goto (tgt := 22) dX10_share_18 (by decide) ?_
      refine r_putf (ci := 11) (kf := 0) (T := TX10) rfl in_X10 tyX10_ok nmX10 (by decide) wF_X10_91 rfl (tyX10_ok 0 (by decide)) dX10_share_22 (MAt.o_ HMh6) (Nat.le_of_ble_eq_true rfl) rfl rfl ?_
      obtain ⟨hu11, eu11, HMu11, HOu11⟩ := mo_o HMh6 HOh6 0 s8.n s8.sz s8.wn s8.at_ s8.wr s8.ru s8.dn s8.lm s8.st s8.fr s8.up
      refine Blk.eqs ?_ rfl rfl eu11
      replace HMu11 : MAt hu11 x0 (MV.u_cd s8 0) := HMu11
      show Blk g M_X10_share (pM x0 h0 nx Q) 25 [(0, .ref x0), (1, .int x1), (2, .int x2), (3, .int x3)] [] hu11 nx 0 0
      refine r_aload_n 0 dX10_share_25 rfl rfl ?_
      refine r_getf (ci := 11) (kf := 0) (T := TX10) rfl in_X10 (by decide) wF_X10_91 dX10_share_26 (MAt.o_ HMu11) rfl ?_
      show Blk g M_X10_share (pM x0 h0 nx Q) 29 [(0, .ref x0), (1, .int x1), (2, .int x2), (3, .int x3)] [.int (nI 0)] hu11 nx 0 0
      refine r_if_leN (tgt := 34) dX10_share_29 (by decide) (by decide) (fun _ => ?_) (fun c => absurd c (by decide))
      refine r_aload_n 0 dX10_share_34 rfl rfl ?_
      refine r_callV (M2 := M_X10_countAll) (ci := 11) (n := 0) (As := []) rfl (wl5 wM_X10_194 wi_X10_countAll wS_X10_countAll wI_StateSharesModel wc_X10_countAll) (by decide +kernel) (by decide) rfl rfl (Nat.le_of_ble_eq_true rfl) dX10_share_35 (MAt.o_ HMu11) (by decide) (by decide) (Ct.imp (V _ _ HMu11) (fun r h12 n13 V => ?_))
      obtain ⟨rfl, Oh12, s14, HMh12, V⟩ := V
      have HOh12 := Off.tr HOu11 Oh12
      obtain ⟨rfl, V⟩ := V
      show Blk g M_X10_share (pM x0 h0 nx Q) 38 [(0, .ref x0), (1, .int x1), (2, .int x2), (3, .int x3)] [] h12 nx 0 0
      refine r_aload_n 0 dX10_share_38 rfl rfl ?_
      refine r_iload_n 1 dX10_share_39 rfl rfl ?_
      refine r_iload_n 2 dX10_share_40 rfl rfl ?_
      refine r_callV (M2 := M_X10_shareAbove) (ci := 11) (n := 2) (As := [.int x1, .int x2]) rfl (wl5 wM_X10_205 wi_X10_shareAbove wS_X10_shareAbove wI_StateSharesModel wc_X10_shareAbove) (by decide +kernel) (by decide) rfl rfl (Nat.le_of_ble_eq_true rfl) dX10_share_41 (MAt.o_ HMh12) (by decide) (by decide) (Ct.imp (V _ _ HMh12) (fun r h15 n16 V => ?_))
      obtain ⟨rfl, Oh15, s17, HMh15, V⟩ := V
      have HOh15 := Off.tr HOh12 Oh15
      obtain ⟨v18, rfl, V⟩ := V
      show Blk g M_X10_share (pM x0 h0 nx Q) 44 [(0, .ref x0), (1, .int x1), (2, .int x2), (3, .int x3)] [.int (nI v18)] h15 nx 0 0
      obtain ⟨c, V⟩ := V
      refine r_i2lN dX10_share_44 c ?_
      refine r_lstore (L' := [(4, .long (lN v18)), (0, .ref x0), (1, .int x1), (2, .int x2), (3, .int x3)]) dX10_share_45 (by decide) rfl ?_
      refine r_aload_n 1 dX10_share_47 rfl rfl ?_
      refine r_iload_n 2 dX10_share_48 rfl rfl ?_
      refine r_callV (M2 := M_X10_shareBelow) (ci := 11) (n := 1) (As := [.int x1]) rfl (wl5 wM_X10_208 wi_X10_shareBelow wS_X10_shareBelow wI_StateSharesModel wc_X10_shareBelow) (by decide +kernel) (by decide) rfl rfl (Nat.le_of_ble_eq_true rfl) dX10_share_49 (MAt.o_ HMh15) (by decide) (by decide) (Ct.imp (V _ _ HMh15) (fun r h19 n20 V => ?_))
      obtain ⟨rfl, Oh19, s21, HMh19, V⟩ := V
      have HOh19 := Off.tr HOh15 Oh19
      obtain ⟨v22, rfl, V⟩ := V
      show Blk g M_X10_share (pM x0 h0 nx Q) 52 [(4, .long (lN v18)), (0, .ref x0), (1, .int x1), (2, .int x2), (3, .int x3)] [.int (nI v22)] h19 nx 0 0
      obtain ⟨c, V⟩ := V
      refine r_i2lN dX10_share_52 c ?_
      refine r_lstore (L' := [(6, .long (lN v22)), (4, .long (lN v18)), (0, .ref x0), (1, .int x1), (2, .int x2), (3, .int x3)]) dX10_share_53 (by decide) rfl ?_
      refine r_lload 1 dX10_share_55 rfl ?_
      refine r_lload 0 dX10_share_57 rfl ?_
      refine r_callS (M2 := M_X10_divisor) (n := 2) (As := [.long (lN v18), .long (lN v22)]) (wl4 wM_X10_211 ws_X10_divisor wI_StateSharesModel wc_X10_divisor) (by decide +kernel) (by decide) rfl rfl (Nat.le_of_ble_eq_true rfl) dX10_share_59 (by decide) (by decide) (Ct.imp (V _ _) (fun r h23 n24 V => ?_))
      obtain ⟨rfl, rfl, V⟩ := V
      obtain ⟨v25, rfl, V⟩ := V
      show Blk g M_X10_share (pM x0 h0 nx Q) 62 [(6, .long (lN v22)), (4, .long (lN v18)), (0, .ref x0), (1, .int x1), (2, .int x2), (3, .int x3)] [.long (lN v25)] h19 nx 0 0
      refine r_lstore (L' := [(8, .long (lN v25)), (6, .long (lN v22)), (4, .long (lN v18)), (0, .ref x0), (1, .int x1), (2, .int x2), (3, .int x3)]) dX10_share_62 (by decide) rfl ?_
      refine r_iload_n 6 dX10_share_64 rfl rfl ?_
      refine r_if_ne (tgt := 76) dX10_share_65 (by decide) (fun c => ?_) (fun c => ?_)
      · have V := V.1 c
        refine r_iload_n 6 dX10_share_76 rfl rfl ?_
        refine r_iconst (v := (nI 1)) dX10_share_77 rfl ?_
        refine r_icmp_ne (tgt := 89) dX10_share_78 (by decide) (fun c => ?_) (fun c => ?_)
        · have V := V.1 c
          refine r_lconst (v := (lN 0)) dX10_share_89 rfl ?_
          exact r_lret dX10_share_90 rfl (by decide) (by decide) ⟨rfl, HOh19, _, HMh19, V⟩
        · have V := V.2 c
          refine r_lload 1 dX10_share_81 rfl ?_
          refine r_lload 0 dX10_share_83 rfl ?_
          obtain ⟨c, V⟩ := V
          refine r_ldivN dX10_share_85 c ?_
          refine r_goto (tgt := 90) dX10_share_86 (by decide) ?_
          exact r_lret dX10_share_90 rfl (by decide) (by decide) ⟨rfl, HOh19, _, HMh19, V⟩
      · have V := V.2 c
        refine r_lload 2 dX10_share_68 rfl ?_
        refine r_lload 0 dX10_share_70 rfl ?_
        obtain ⟨c, V⟩ := V
        refine r_ldivN dX10_share_72 c ?_
        refine r_goto (tgt := 90) dX10_share_73 (by decide) ?_
        exact r_lret dX10_share_90 rfl (by decide) (by decide) ⟨rfl, HOh19, _, HMh19, V⟩
set_option maxRecDepth 20000 in
theorem v_X10_joined_0 {g : xG} {Q : mQ} {s : MV} {x0 : Nat} {x1 : Int32} {x2 : Int32} (V : (CtM g M_X10_isState [.ref x0, .int x1] x0 (MV.u_cd s 0) (fun r s4 => ∃ v5 : Nat, r = some (.int (nI v5)) ∧ (v5 < 2 ^ 31 ∧ ((v5 = 0 → (Q (some (.int (-1))) s4)) ∧ (¬ v5 = 0 → (CtM g M_X10_isState [.ref x0, .int x2] x0 s4 (fun r s8 => ∃ v9 : Nat, r = some (.int (nI v9)) ∧ (v9 < 2 ^ 31 ∧ ((¬ v9 = 0 → (CtM g M_X10_countAll [.ref x0] x0 s8 (fun r s12 => r = none ∧ (∃ j13 : Nat, x1 = nI j13 ∧ j13 < 6 ∧ (∃ j15 : Nat, x2 = nI j15 ∧ j15 < 6 ∧ (((s12.gp j13) < 2 ^ 31 ∧ (s12.gp j15) < 2 ^ 31) ∧ ((¬ (s12.gp j13) = (s12.gp j15) → (Q (some (.int (nI 0))) s12)) ∧ ((s12.gp j13) = (s12.gp j15) → (Q (some (.int (nI 1))) s12))))))))) ∧ (v9 = 0 → (Q (some (.int (-1))) s8)))))))))))) : BlkM g M_X10_joined x0 Q 0 [(0, .ref x0), (1, .int x1), (2, .int x2)] [] s := by
  intro h0 h nx HO HM
  refine r_aload_n 0 dX10_joined_0 rfl rfl ?_
  refine r_iconst (v := (nI 0)) dX10_joined_1 rfl ?_
  refine r_putf (ci := 11) (kf := 0) (T := TX10) rfl in_X10 tyX10_ok nmX10 (by decide) wF_X10_91 rfl (tyX10_ok 0 (by decide)) dX10_joined_2 (MAt.o_ HM) (Nat.le_of_ble_eq_true rfl) rfl rfl ?_
  obtain ⟨hu1, eu1, HMu1, HOu1⟩ := mo_o HM HO 0 s.n s.sz s.wn s.at_ s.wr s.ru s.dn s.lm s.st s.fr s.up
  refine Blk.eqs ?_ rfl rfl eu1
  replace HMu1 : MAt hu1 x0 (MV.u_cd s 0) := HMu1
  show Blk g M_X10_joined (pM x0 h0 nx Q) 5 [(0, .ref x0), (1, .int x1), (2, .int x2)] [] hu1 nx 0 0
  refine r_aload_n 0 dX10_joined_5 rfl rfl ?_
  refine r_iload_n 1 dX10_joined_6 rfl rfl ?_
  refine r_callV (M2 := M_X10_isState) (ci := 11) (n := 1) (As := [.int x1]) rfl (wl5 wM_X10_108 wi_X10_isState wS_X10_isState wI_StateSharesModel wc_X10_isState) (by decide +kernel) (by decide) rfl rfl (Nat.le_of_ble_eq_true rfl) dX10_joined_7 (MAt.o_ HMu1) (by decide) (by decide) (Ct.imp (V _ _ HMu1) (fun r h2 n3 V => ?_))
  obtain ⟨rfl, Oh2, s4, HMh2, V⟩ := V
  have HOh2 := Off.tr HOu1 Oh2
  obtain ⟨v5, rfl, V⟩ := V
  show Blk g M_X10_joined (pM x0 h0 nx Q) 10 [(0, .ref x0), (1, .int x1), (2, .int x2)] [.int (nI v5)] h2 nx 0 0
  obtain ⟨c, V⟩ := V
  refine r_if_eqN (tgt := 21) dX10_joined_10 (by decide) c (fun c => ?_) (fun c => ?_)
  · have V := V.1 c
    refine r_iconst (v := (-1)) dX10_joined_21 rfl ?_
    exact r_iret dX10_joined_22 rfl (by decide) (by decide) ⟨rfl, HOh2, _, HMh2, V⟩
  · have V := V.2 c
    refine r_aload_n 0 dX10_joined_13 rfl rfl ?_
    refine r_iload_n 2 dX10_joined_14 rfl rfl ?_
    refine r_callV (M2 := M_X10_isState) (ci := 11) (n := 1) (As := [.int x2]) rfl (wl5 wM_X10_108 wi_X10_isState wS_X10_isState wI_StateSharesModel wc_X10_isState) (by decide +kernel) (by decide) rfl rfl (Nat.le_of_ble_eq_true rfl) dX10_joined_15 (MAt.o_ HMh2) (by decide) (by decide) (Ct.imp (V _ _ HMh2) (fun r h6 n7 V => ?_))
    obtain ⟨rfl, Oh6, s8, HMh6, V⟩ := V
    have HOh6 := Off.tr HOh2 Oh6
    obtain ⟨v9, rfl, V⟩ := V
    show Blk g M_X10_joined (pM x0 h0 nx Q) 18 [(0, .ref x0), (1, .int x1), (2, .int x2)] [.int (nI v9)] h6 nx 0 0
    obtain ⟨c, V⟩ := V
    refine r_if_neN (tgt := 23) dX10_joined_18 (by decide) c (fun c => ?_) (fun c => ?_)
    · have V := V.1 c
      refine r_aload_n 0 dX10_joined_23 rfl rfl ?_
      refine r_callV (M2 := M_X10_countAll) (ci := 11) (n := 0) (As := []) rfl (wl5 wM_X10_194 wi_X10_countAll wS_X10_countAll wI_StateSharesModel wc_X10_countAll) (by decide +kernel) (by decide) rfl rfl (Nat.le_of_ble_eq_true rfl) dX10_joined_24 (MAt.o_ HMh6) (by decide) (by decide) (Ct.imp (V _ _ HMh6) (fun r h10 n11 V => ?_))
      obtain ⟨rfl, Oh10, s12, HMh10, V⟩ := V
      have HOh10 := Off.tr HOh6 Oh10
      obtain ⟨rfl, V⟩ := V
      show Blk g M_X10_joined (pM x0 h0 nx Q) 27 [(0, .ref x0), (1, .int x1), (2, .int x2)] [] h10 nx 0 0
      refine r_aload_n 0 dX10_joined_27 rfl rfl ?_
      refine r_getf (ci := 11) (kf := 17) (T := TX10) rfl in_X10 (by decide) wF_X10_34 dX10_joined_28 (MAt.o_ HMh10) rfl ?_
      refine r_iload_n 1 dX10_joined_31 rfl rfl ?_
      obtain ⟨j13, e14, V⟩ := V
      obtain ⟨c, V⟩ := V
      refine r_iald dX10_joined_32 (MAt.g_gp HMh10) e14 c (by decide) ?_
      show Blk g M_X10_joined (pM x0 h0 nx Q) 33 [(0, .ref x0), (1, .int x1), (2, .int x2)] [.int (nI (s12.gp j13))] h10 nx 0 0
      refine r_aload_n 0 dX10_joined_33 rfl rfl ?_
      refine r_getf (ci := 11) (kf := 17) (T := TX10) rfl in_X10 (by decide) wF_X10_34 dX10_joined_34 (MAt.o_ HMh10) rfl ?_
      refine r_iload_n 2 dX10_joined_37 rfl rfl ?_
      obtain ⟨j15, e16, V⟩ := V
      obtain ⟨c, V⟩ := V
      refine r_iald dX10_joined_38 (MAt.g_gp HMh10) e16 c (by decide) ?_
      show Blk g M_X10_joined (pM x0 h0 nx Q) 39 [(0, .ref x0), (1, .int x1), (2, .int x2)] [.int (nI (s12.gp j15)), .int (nI (s12.gp j13))] h10 nx 0 0
      obtain ⟨c, V⟩ := V
      refine r_icmp_neN (tgt := 46) dX10_joined_39 (by decide) c (fun c => ?_) (fun c => ?_)
      · have V := V.1 c
        refine r_iconst (v := (nI 0)) dX10_joined_46 rfl ?_
        exact r_iret dX10_joined_47 rfl (by decide) (by decide) ⟨rfl, HOh10, _, HMh10, V⟩
      · have V := V.2 c
        refine r_iconst (v := (nI 1)) dX10_joined_42 rfl ?_
        refine r_goto (tgt := 47) dX10_joined_43 (by decide) ?_
        exact r_iret dX10_joined_47 rfl (by decide) (by decide) ⟨rfl, HOh10, _, HMh10, V⟩
    · have V := V.2 c
      refine r_iconst (v := (-1)) dX10_joined_21 rfl ?_
      exact r_iret dX10_joined_22 rfl (by decide) (by decide) ⟨rfl, HOh6, _, HMh6, V⟩
set_option maxRecDepth 20000 in
theorem v_X10_span_0 {g : xG} {Q : mQ} {s : MV} {x0 : Nat} {x1 : Int32} {x2 : Int32} {x3 : Int32} {x4 : Int32} (V : (CtM g M_X10_isState [.ref x0, .int x1] x0 (MV.u_cd s 0) (fun r s4 => ∃ v5 : Nat, r = some (.int (nI v5)) ∧ (v5 < 2 ^ 31 ∧ ((v5 = 0 → (Q (some (.long (-1))) s4)) ∧ (¬ v5 = 0 → (CtM g M_X10_isState [.ref x0, .int x2] x0 s4 (fun r s8 => ∃ v9 : Nat, r = some (.int (nI v9)) ∧ (v9 < 2 ^ 31 ∧ ((v9 = 0 → (Q (some (.long (-1))) s8)) ∧ (¬ v9 = 0 → (CtP g M_X10_in [.long (x3.toInt64), .long (lN 0), .long (lN 1)] (fun r => ∃ v12 : Nat, r = some (.int (nI v12)) ∧ (v12 < 2 ^ 31 ∧ ((v12 = 0 → (Q (some (.long (-1))) s8)) ∧ (¬ v12 = 0 → (CtP g M_X10_in [.long (x4.toInt64), .long (lN 0), .long (lN 1)] (fun r => ∃ v15 : Nat, r = some (.int (nI v15)) ∧ (v15 < 2 ^ 31 ∧ ((¬ v15 = 0 → (CtM g M_X10_countAll [.ref x0] x0 s8 (fun r s18 => r = none ∧ (∃ j19 : Nat, (((nI 6) * x1) + x2) = nI j19 ∧ j19 < 36 ∧ ((s18.ct j19) < 2 ^ 31 ∧ (CtM g M_X10_movesFrom [.ref x0, .int x1] x0 s18 (fun r s23 => ∃ v24 : Nat, r = some (.int (nI v24)) ∧ (v24 < 2 ^ 31 ∧ ((¬ x4 = 0 → (CtP g M_X10_divisor [.long ((lN (s18.ct j19)) + ((lN 2) * (x3.toInt64))), .long (lN (v24 + 2))] (fun r => ∃ v27 : Nat, r = some (.long (lN v27)) ∧ (((v24 + 2) < 2 ^ 63 ∧ 0 < v27 ∧ v27 < 2 ^ 63) ∧ (Q (some (.long (lN ((v24 + 2) / v27)))) s23))))) ∧ (x4 = 0 → (CtP g M_X10_divisor [.long ((lN (s18.ct j19)) + ((lN 2) * (x3.toInt64))), .long (lN (v24 + 2))] (fun r => ∃ v30 : Nat, r = some (.long (lN v30)) ∧ (¬ (lN v30) = 0 ∧ (Q (some (.long (((lN (s18.ct j19)) + ((lN 2) * (x3.toInt64))) / (lN v30)))) s23)))))))))))))) ∧ (v15 = 0 → (Q (some (.long (-1))) s8)))))))))))))))))))))) : BlkM g M_X10_span x0 Q 0 [(0, .ref x0), (1, .int x1), (2, .int x2), (3, .int x3), (4, .int x4)] [] s := by
  intro h0 h nx HO HM
  refine r_aload_n 0 dX10_span_0 rfl rfl ?_
  refine r_iconst (v := (nI 0)) dX10_span_1 rfl ?_
  refine r_putf (ci := 11) (kf := 0) (T := TX10) rfl in_X10 tyX10_ok nmX10 (by decide) wF_X10_91 rfl (tyX10_ok 0 (by decide)) dX10_span_2 (MAt.o_ HM) (Nat.le_of_ble_eq_true rfl) rfl rfl ?_
  obtain ⟨hu1, eu1, HMu1, HOu1⟩ := mo_o HM HO 0 s.n s.sz s.wn s.at_ s.wr s.ru s.dn s.lm s.st s.fr s.up
  refine Blk.eqs ?_ rfl rfl eu1
  replace HMu1 : MAt hu1 x0 (MV.u_cd s 0) := HMu1
  show Blk g M_X10_span (pM x0 h0 nx Q) 5 [(0, .ref x0), (1, .int x1), (2, .int x2), (3, .int x3), (4, .int x4)] [] hu1 nx 0 0
  refine r_aload_n 0 dX10_span_5 rfl rfl ?_
  refine r_iload_n 1 dX10_span_6 rfl rfl ?_
  refine r_callV (M2 := M_X10_isState) (ci := 11) (n := 1) (As := [.int x1]) rfl (wl5 wM_X10_108 wi_X10_isState wS_X10_isState wI_StateSharesModel wc_X10_isState) (by decide +kernel) (by decide) rfl rfl (Nat.le_of_ble_eq_true rfl) dX10_span_7 (MAt.o_ HMu1) (by decide) (by decide) (Ct.imp (V _ _ HMu1) (fun r h2 n3 V => ?_))
  obtain ⟨rfl, Oh2, s4, HMh2, V⟩ := V
  have HOh2 := Off.tr HOu1 Oh2
  obtain ⟨v5, rfl, V⟩ := V
  show Blk g M_X10_span (pM x0 h0 nx Q) 10 [(0, .ref x0), (1, .int x1), (2, .int x2), (3, .int x3), (4, .int x4)] [.int (nI v5)] h2 nx 0 0
  obtain ⟨c, V⟩ := V
  refine r_if_eqN (tgt := 42) dX10_span_10 (by decide) c (fun c => ?_) (fun c => ?_)
  · have V := V.1 c
    refine r_ldc2 (v := (-1)) wL_X10_215 dX10_span_42 ?_
    exact r_lret dX10_span_45 rfl (by decide) (by decide) ⟨rfl, HOh2, _, HMh2, V⟩
  · have V := V.2 c
    refine r_aload_n 0 dX10_span_13 rfl rfl ?_
    refine r_iload_n 2 dX10_span_14 rfl rfl ?_
    refine r_callV (M2 := M_X10_isState) (ci := 11) (n := 1) (As := [.int x2]) rfl (wl5 wM_X10_108 wi_X10_isState wS_X10_isState wI_StateSharesModel wc_X10_isState) (by decide +kernel) (by decide) rfl rfl (Nat.le_of_ble_eq_true rfl) dX10_span_15 (MAt.o_ HMh2) (by decide) (by decide) (Ct.imp (V _ _ HMh2) (fun r h6 n7 V => ?_))
    obtain ⟨rfl, Oh6, s8, HMh6, V⟩ := V
    have HOh6 := Off.tr HOh2 Oh6
    obtain ⟨v9, rfl, V⟩ := V
    show Blk g M_X10_span (pM x0 h0 nx Q) 18 [(0, .ref x0), (1, .int x1), (2, .int x2), (3, .int x3), (4, .int x4)] [.int (nI v9)] h6 nx 0 0
    obtain ⟨c, V⟩ := V
    refine r_if_eqN (tgt := 42) dX10_span_18 (by decide) c (fun c => ?_) (fun c => ?_)
    · have V := V.1 c
      refine r_ldc2 (v := (-1)) wL_X10_215 dX10_span_42 ?_
      exact r_lret dX10_span_45 rfl (by decide) (by decide) ⟨rfl, HOh6, _, HMh6, V⟩
    · have V := V.2 c
      refine r_iload_n 3 dX10_span_21 rfl rfl ?_
      refine r_i2l dX10_span_22 ?_
      refine r_lconst (v := (lN 0)) dX10_span_23 rfl ?_
      refine r_lconst (v := (lN 1)) dX10_span_24 rfl ?_
      refine r_callS (M2 := M_X10_in) (n := 3) (As := [.long (x3.toInt64), .long (lN 0), .long (lN 1)]) (wl4 wM_X10_94 ws_X10_in wI_StateSharesModel wc_X10_in) (by decide +kernel) (by decide) rfl rfl (Nat.le_of_ble_eq_true rfl) dX10_span_25 (by decide) (by decide) (Ct.imp (V _ _) (fun r h10 n11 V => ?_))
      obtain ⟨rfl, rfl, V⟩ := V
      obtain ⟨v12, rfl, V⟩ := V
      show Blk g M_X10_span (pM x0 h0 nx Q) 28 [(0, .ref x0), (1, .int x1), (2, .int x2), (3, .int x3), (4, .int x4)] [.int (nI v12)] h6 nx 0 0
      obtain ⟨c, V⟩ := V
      refine r_if_eqN (tgt := 42) dX10_span_28 (by decide) c (fun c => ?_) (fun c => ?_)
      · have V := V.1 c
        refine r_ldc2 (v := (-1)) wL_X10_215 dX10_span_42 ?_
        exact r_lret dX10_span_45 rfl (by decide) (by decide) ⟨rfl, HOh6, _, HMh6, V⟩
      · have V := V.2 c
        refine r_iload 4 dX10_span_31 rfl ?_
        refine r_i2l dX10_span_33 ?_
        refine r_lconst (v := (lN 0)) dX10_span_34 rfl ?_
        refine r_lconst (v := (lN 1)) dX10_span_35 rfl ?_
        refine r_callS (M2 := M_X10_in) (n := 3) (As := [.long (x4.toInt64), .long (lN 0), .long (lN 1)]) (wl4 wM_X10_94 ws_X10_in wI_StateSharesModel wc_X10_in) (by decide +kernel) (by decide) rfl rfl (Nat.le_of_ble_eq_true rfl) dX10_span_36 (by decide) (by decide) (Ct.imp (V _ _) (fun r h13 n14 V => ?_))
        obtain ⟨rfl, rfl, V⟩ := V
        obtain ⟨v15, rfl, V⟩ := V
        show Blk g M_X10_span (pM x0 h0 nx Q) 39 [(0, .ref x0), (1, .int x1), (2, .int x2), (3, .int x3), (4, .int x4)] [.int (nI v15)] h6 nx 0 0
        obtain ⟨c, V⟩ := V
        refine r_if_neN (tgt := 46) dX10_span_39 (by decide) c (fun c => ?_) (fun c => ?_)
        · have V := V.1 c
          refine r_aload_n 0 dX10_span_46 rfl rfl ?_
          refine r_callV (M2 := M_X10_countAll) (ci := 11) (n := 0) (As := []) rfl (wl5 wM_X10_194 wi_X10_countAll wS_X10_countAll wI_StateSharesModel wc_X10_countAll) (by decide +kernel) (by decide) rfl rfl (Nat.le_of_ble_eq_true rfl) dX10_span_47 (MAt.o_ HMh6) (by decide) (by decide) (Ct.imp (V _ _ HMh6) (fun r h16 n17 V => ?_))
          obtain ⟨rfl, Oh16, s18, HMh16, V⟩ := V
          have HOh16 := Off.tr HOh6 Oh16
          obtain ⟨rfl, V⟩ := V
          show Blk g M_X10_span (pM x0 h0 nx Q) 50 [(0, .ref x0), (1, .int x1), (2, .int x2), (3, .int x3), (4, .int x4)] [] h16 nx 0 0
          refine r_aload_n 0 dX10_span_50 rfl rfl ?_
          refine r_getf (ci := 11) (kf := 16) (T := TX10) rfl in_X10 (by decide) wF_X10_31 dX10_span_51 (MAt.o_ HMh16) rfl ?_
          refine r_bipush (v := (nI 6)) dX10_span_54 rfl ?_
          refine r_iload_n 1 dX10_span_56 rfl rfl ?_
          refine r_imul dX10_span_57 ?_
          refine r_iload_n 2 dX10_span_58 rfl rfl ?_
          refine r_iadd dX10_span_59 ?_
          obtain ⟨j19, e20, V⟩ := V
          obtain ⟨c, V⟩ := V
          refine r_iald dX10_span_60 (MAt.g_ct HMh16) e20 c (by decide) ?_
          show Blk g M_X10_span (pM x0 h0 nx Q) 61 [(0, .ref x0), (1, .int x1), (2, .int x2), (3, .int x3), (4, .int x4)] [.int (nI (s18.ct j19))] h16 nx 0 0
          obtain ⟨c, V⟩ := V
          refine r_i2lN dX10_span_61 c ?_
          refine r_ldc2 (v := (lN 2)) wL_X10_86 dX10_span_62 ?_
          refine r_iload_n 3 dX10_span_65 rfl rfl ?_
          refine r_i2l dX10_span_66 ?_
          refine r_lmul dX10_span_67 ?_
          refine r_ladd dX10_span_68 ?_
          refine r_lstore (L' := [(5, .long ((lN (s18.ct j19)) + ((lN 2) * (x3.toInt64)))), (0, .ref x0), (1, .int x1), (2, .int x2), (3, .int x3), (4, .int x4)]) dX10_span_69 (by decide) rfl ?_
          refine r_aload_n 1 dX10_span_71 rfl rfl ?_
          refine r_iload_n 2 dX10_span_72 rfl rfl ?_
          refine r_callV (M2 := M_X10_movesFrom) (ci := 11) (n := 1) (As := [.int x1]) rfl (wl5 wM_X10_187 wi_X10_movesFrom wS_X10_movesFrom wI_StateSharesModel wc_X10_movesFrom) (by decide +kernel) (by decide) rfl rfl (Nat.le_of_ble_eq_true rfl) dX10_span_73 (MAt.o_ HMh16) (by decide) (by decide) (Ct.imp (V _ _ HMh16) (fun r h21 n22 V => ?_))
          obtain ⟨rfl, Oh21, s23, HMh21, V⟩ := V
          have HOh21 := Off.tr HOh16 Oh21
          obtain ⟨v24, rfl, V⟩ := V
          show Blk g M_X10_span (pM x0 h0 nx Q) 76 [(5, .long ((lN (s18.ct j19)) + ((lN 2) * (x3.toInt64)))), (0, .ref x0), (1, .int x1), (2, .int x2), (3, .int x3), (4, .int x4)] [.int (nI v24)] h21 nx 0 0
          obtain ⟨c, V⟩ := V
          refine r_i2lN dX10_span_76 c ?_
          refine r_ldc2 (v := (lN 2)) wL_X10_86 dX10_span_77 ?_
          refine r_laddN dX10_span_80 ?_
          refine r_lstore (L' := [(7, .long (lN (v24 + 2))), (5, .long ((lN (s18.ct j19)) + ((lN 2) * (x3.toInt64)))), (0, .ref x0), (1, .int x1), (2, .int x2), (3, .int x3), (4, .int x4)]) dX10_span_81 (by decide) rfl ?_
          refine r_iload 6 dX10_span_83 rfl ?_
          refine r_if_ne (tgt := 93) dX10_span_85 (by decide) (fun c => ?_) (fun c => ?_)
          · have V := V.1 c
            refine r_lload 0 dX10_span_93 rfl ?_
            refine r_lload 1 dX10_span_95 rfl ?_
            refine r_lload 0 dX10_span_97 rfl ?_
            refine r_callS (M2 := M_X10_divisor) (n := 2) (As := [.long ((lN (s18.ct j19)) + ((lN 2) * (x3.toInt64))), .long (lN (v24 + 2))]) (wl4 wM_X10_211 ws_X10_divisor wI_StateSharesModel wc_X10_divisor) (by decide +kernel) (by decide) rfl rfl (Nat.le_of_ble_eq_true rfl) dX10_span_99 (by decide) (by decide) (Ct.imp (V _ _) (fun r h25 n26 V => ?_))
            obtain ⟨rfl, rfl, V⟩ := V
            obtain ⟨v27, rfl, V⟩ := V
            show Blk g M_X10_span (pM x0 h0 nx Q) 102 [(7, .long (lN (v24 + 2))), (5, .long ((lN (s18.ct j19)) + ((lN 2) * (x3.toInt64)))), (0, .ref x0), (1, .int x1), (2, .int x2), (3, .int x3), (4, .int x4)] [.long (lN v27), .long (lN (v24 + 2))] h21 nx 0 0
            obtain ⟨c, V⟩ := V
            refine r_ldivN dX10_span_102 c ?_
            exact r_lret dX10_span_103 rfl (by decide) (by decide) ⟨rfl, HOh21, _, HMh21, V⟩
          · have V := V.2 c
            refine r_lload 1 dX10_span_88 rfl ?_
            refine r_goto (tgt := 95) dX10_span_90 (by decide) ?_
            refine r_lload 1 dX10_span_95 rfl ?_
            refine r_lload 0 dX10_span_97 rfl ?_
            refine r_callS (M2 := M_X10_divisor) (n := 2) (As := [.long ((lN (s18.ct j19)) + ((lN 2) * (x3.toInt64))), .long (lN (v24 + 2))]) (wl4 wM_X10_211 ws_X10_divisor wI_StateSharesModel wc_X10_divisor) (by decide +kernel) (by decide) rfl rfl (Nat.le_of_ble_eq_true rfl) dX10_span_99 (by decide) (by decide) (Ct.imp (V _ _) (fun r h28 n29 V => ?_))
            obtain ⟨rfl, rfl, V⟩ := V
            obtain ⟨v30, rfl, V⟩ := V
            show Blk g M_X10_span (pM x0 h0 nx Q) 102 [(7, .long (lN (v24 + 2))), (5, .long ((lN (s18.ct j19)) + ((lN 2) * (x3.toInt64)))), (0, .ref x0), (1, .int x1), (2, .int x2), (3, .int x3), (4, .int x4)] [.long (lN v30), .long ((lN (s18.ct j19)) + ((lN 2) * (x3.toInt64)))] h21 nx 0 0
            obtain ⟨c, V⟩ := V
            refine r_ldiv dX10_span_102 c ?_
            exact r_lret dX10_span_103 rfl (by decide) (by decide) ⟨rfl, HOh21, _, HMh21, V⟩
        · have V := V.2 c
          refine r_ldc2 (v := (-1)) wL_X10_215 dX10_span_42 ?_
          exact r_lret dX10_span_45 rfl (by decide) (by decide) ⟨rfl, HOh6, _, HMh6, V⟩
