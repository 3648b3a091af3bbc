set_option maxRecDepth 20000 in
theorem wM_X10_249 : Cond.methodLink "StateSharesModel" 249 (yX10_part) ∈ lw_gd := lw_in 1295 (by decide +kernel) rfl
set_option maxRecDepth 20000 in
theorem wi_X10_part : Cond.instanceMethod (yX10_part) ∈ lw_gd := lw_in 1297 (by decide +kernel) rfl
set_option maxRecDepth 20000 in
theorem wS_X10_part : Cond.selects "StateSharesModel" (yX10_part) (yX10_part) ∈ lw_gd := lw_inS (q := ((yX10_part), 33)) 58 (by decide +kernel)
set_option maxRecDepth 20000 in
theorem wc_X10_part : Cond.code yX10_part cX10_part 7 none ∈ lw_gd := lw_in 1298 (by decide +kernel) rfl
set_option maxRecDepth 20000 in
theorem wM_X10_253 : Cond.methodLink "StateSharesModel" 253 (yX10_take) ∈ lw_gd := lw_in 1327 (by decide +kernel) rfl
set_option maxRecDepth 20000 in
theorem wi_X10_take : Cond.instanceMethod (yX10_take) ∈ lw_gd := lw_in 1329 (by decide +kernel) rfl
set_option maxRecDepth 20000 in
theorem wS_X10_take : Cond.selects "StateSharesModel" (yX10_take) (yX10_take) ∈ lw_gd := lw_inS (q := ((yX10_take), 33)) 66 (by decide +kernel)
set_option maxRecDepth 20000 in
theorem wc_X10_take : Cond.code yX10_take cX10_take 8 none ∈ lw_gd := lw_in 1330 (by decide +kernel) rfl
set_option maxRecDepth 20000 in
theorem wM_X10_256 : Cond.methodLink "StateSharesModel" 256 (yX10_add) ∈ lw_gd := lw_in 1335 (by decide +kernel) rfl
set_option maxRecDepth 20000 in
theorem wi_X10_add : Cond.instanceMethod (yX10_add) ∈ lw_gd := lw_in 1337 (by decide +kernel) rfl
set_option maxRecDepth 20000 in
theorem wS_X10_add : Cond.selects "StateSharesModel" (yX10_add) (yX10_add) ∈ lw_gd := lw_inS (q := ((yX10_add), 33)) 68 (by decide +kernel)
set_option maxRecDepth 20000 in
theorem wc_X10_add : Cond.code yX10_add cX10_add 9 none ∈ lw_gd := lw_in 1338 (by decide +kernel) rfl
set_option maxRecDepth 20000 in
theorem wF_X10_46 : Cond.fieldLink "StateSharesModel" 46 "StateSharesModel" "works" "[I" ∈ lw_gd := lw_in 1053 (by decide +kernel) rfl
set_option maxRecDepth 20000 in
theorem wF_X10_43 : Cond.fieldLink "StateSharesModel" 43 "StateSharesModel" "workCount" "[I" ∈ lw_gd := lw_in 1052 (by decide +kernel) rfl
set_option maxRecDepth 20000 in
theorem wM_X10_259 : Cond.methodLink "StateSharesModel" 259 (yX10_goes) ∈ lw_gd := lw_in 1323 (by decide +kernel) rfl
set_option maxRecDepth 20000 in
theorem wi_X10_goes : Cond.instanceMethod (yX10_goes) ∈ lw_gd := lw_in 1325 (by decide +kernel) rfl
set_option maxRecDepth 20000 in
theorem wS_X10_goes : Cond.selects "StateSharesModel" (yX10_goes) (yX10_goes) ∈ lw_gd := lw_inS (q := ((yX10_goes), 33)) 65 (by decide +kernel)
set_option maxRecDepth 20000 in
theorem wc_X10_goes : Cond.code yX10_goes cX10_goes 7 none ∈ lw_gd := lw_in 1326 (by decide +kernel) rfl
set_option maxRecDepth 20000 in
theorem wF_X10_52 : Cond.fieldLink "StateSharesModel" 52 "StateSharesModel" "events" "[I" ∈ lw_gd := lw_in 1055 (by decide +kernel) rfl
set_option maxRecDepth 20000 in
theorem wF_X10_49 : Cond.fieldLink "StateSharesModel" 49 "StateSharesModel" "eventCount" "[I" ∈ lw_gd := lw_in 1054 (by decide +kernel) rfl
set_option maxRecDepth 20000 in
theorem wF_X10_71 : Cond.fieldLink "StateSharesModel" 71 "StateSharesModel" "tooLong" "[Z" ∈ lw_gd := lw_in 1061 (by decide +kernel) rfl
set_option maxRecDepth 20000 in
theorem wM_X10_263 : Cond.methodLink "StateSharesModel" 263 (yX10_isLong) ∈ lw_gd := lw_in 1339 (by decide +kernel) rfl
set_option maxRecDepth 20000 in
theorem wi_X10_isLong : Cond.instanceMethod (yX10_isLong) ∈ lw_gd := lw_in 1341 (by decide +kernel) rfl
set_option maxRecDepth 20000 in
theorem wS_X10_isLong : Cond.selects "StateSharesModel" (yX10_isLong) (yX10_isLong) ∈ lw_gd := lw_inS (q := ((yX10_isLong), 33)) 69 (by decide +kernel)
set_option maxRecDepth 20000 in
theorem wc_X10_isLong : Cond.code yX10_isLong cX10_isLong 2 (some .boolean) ∈ lw_gd := lw_in 1342 (by decide +kernel) rfl
set_option maxRecDepth 20000 in
theorem wF_X10_269 : Cond.fieldLink "StateSharesModel" 269 "StateSharesModel" "upTo" "I" ∈ lw_gd := lw_in 1063 (by decide +kernel) rfl
set_option maxRecDepth 20000 in
theorem wF_X10_266 : Cond.fieldLink "StateSharesModel" 266 "StateSharesModel" "started" "Z" ∈ lw_gd := lw_in 1049 (by decide +kernel) rfl
set_option maxRecDepth 20000 in
theorem wF_X10_37 : Cond.fieldLink "StateSharesModel" 37 "StateSharesModel" "startAbove" "[I" ∈ lw_gd := lw_in 1050 (by decide +kernel) rfl
set_option maxRecDepth 20000 in
theorem wF_X10_40 : Cond.fieldLink "StateSharesModel" 40 "StateSharesModel" "startBelow" "[I" ∈ lw_gd := lw_in 1051 (by decide +kernel) rfl
set_option maxRecDepth 20000 in
theorem wM_X10_272 : Cond.methodLink "StateSharesModel" 272 (yX10_step) ∈ lw_gd := lw_in 1315 (by decide +kernel) rfl
set_option maxRecDepth 20000 in
theorem wi_X10_step : Cond.instanceMethod (yX10_step) ∈ lw_gd := lw_in 1317 (by decide +kernel) rfl
set_option maxRecDepth 20000 in
theorem wS_X10_step : Cond.selects "StateSharesModel" (yX10_step) (yX10_step) ∈ lw_gd := lw_inS (q := ((yX10_step), 33)) 63 (by decide +kernel)
set_option maxRecDepth 20000 in
theorem wc_X10_step : Cond.code yX10_step cX10_step 5 none ∈ lw_gd := lw_in 1318 (by decide +kernel) rfl
set_option maxRecDepth 20000 in
theorem wM_X10_275 : Cond.methodLink "StateSharesModel" 275 (yX10_foretell) ∈ lw_gd := lw_in 1291 (by decide +kernel) rfl
set_option maxRecDepth 20000 in
theorem wi_X10_foretell : Cond.instanceMethod (yX10_foretell) ∈ lw_gd := lw_in 1293 (by decide +kernel) rfl
set_option maxRecDepth 20000 in
theorem wS_X10_foretell : Cond.selects "StateSharesModel" (yX10_foretell) (yX10_foretell) ∈ lw_gd := lw_inS (q := ((yX10_foretell), 33)) 57 (by decide +kernel)
set_option maxRecDepth 20000 in
theorem wc_X10_foretell : Cond.code yX10_foretell cX10_foretell 3 none ∈ lw_gd := lw_in 1294 (by decide +kernel) rfl
set_option maxRecDepth 20000 in
theorem wM_X10_278 : Cond.methodLink "StateSharesModel" 278 (yX10_isForetold) ∈ lw_gd := lw_in 1287 (by decide +kernel) rfl
set_option maxRecDepth 20000 in
theorem wi_X10_isForetold : Cond.instanceMethod (yX10_isForetold) ∈ lw_gd := lw_in 1289 (by decide +kernel) rfl
set_option maxRecDepth 20000 in
theorem wS_X10_isForetold : Cond.selects "StateSharesModel" (yX10_isForetold) (yX10_isForetold) ∈ lw_gd := lw_inS (q := ((yX10_isForetold), 33)) 56 (by decide +kernel)
set_option maxRecDepth 20000 in
theorem wc_X10_isForetold : Cond.code yX10_isForetold cX10_isForetold 2 (some .boolean) ∈ lw_gd := lw_in 1290 (by decide +kernel) rfl
set_option maxRecDepth 20000 in
theorem wM_X10_281 : Cond.methodLink "StateSharesModel" 281 (yX10_partOf) ∈ lw_gd := lw_in 1351 (by decide +kernel) rfl
set_option maxRecDepth 20000 in
theorem wi_X10_partOf : Cond.instanceMethod (yX10_partOf) ∈ lw_gd := lw_in 1353 (by decide +kernel) rfl
set_option maxRecDepth 20000 in
theorem wS_X10_partOf : Cond.selects "StateSharesModel" (yX10_partOf) (yX10_partOf) ∈ lw_gd := lw_inS (q := ((yX10_partOf), 33)) 72 (by decide +kernel)
set_option maxRecDepth 20000 in
theorem wc_X10_partOf : Cond.code yX10_partOf cX10_partOf 3 (some .long) ∈ lw_gd := lw_in 1354 (by decide +kernel) rfl
set_option maxRecDepth 20000 in
theorem wL_X10_284 : Cond.constantLong "StateSharesModel" 284 (1000) ∈ lw_gd := lw_in 1366 (by decide +kernel) rfl
set_option maxRecDepth 20000 in
theorem wM_X10_286 : Cond.methodLink "StateSharesModel" 286 (yX10_isFraction) ∈ lw_gd := lw_in 1363 (by decide +kernel) rfl
set_option maxRecDepth 20000 in
theorem ws_X10_isFraction : Cond.static (yX10_isFraction) ∈ lw_gd := lw_in 1364 (by decide +kernel) rfl
set_option maxRecDepth 20000 in
theorem wc_X10_isFraction : Cond.code yX10_isFraction cX10_isFraction 4 (some .boolean) ∈ lw_gd := lw_in 1365 (by decide +kernel) rfl
set_option maxRecDepth 20000 in
theorem wL_X10_290 : Cond.constantLong "StateSharesModel" 290 (10) ∈ lw_gd := lw_in 1375 (by decide +kernel) rfl
set_option maxRecDepth 20000 in
theorem wM_X10_292 : Cond.methodLink "StateSharesModel" 292 (yX10_tell) ∈ lw_gd := lw_in 1371 (by decide +kernel) rfl
set_option maxRecDepth 20000 in
theorem wi_X10_tell : Cond.instanceMethod (yX10_tell) ∈ lw_gd := lw_in 1373 (by decide +kernel) rfl
set_option maxRecDepth 20000 in
theorem wS_X10_tell : Cond.selects "StateSharesModel" (yX10_tell) (yX10_tell) ∈ lw_gd := lw_inS (q := ((yX10_tell), 33)) 74 (by decide +kernel)
set_option maxRecDepth 20000 in
theorem wc_X10_tell : Cond.code yX10_tell cX10_tell 12 (some .boolean) ∈ lw_gd := lw_in 1374 (by decide +kernel) rfl
set_option maxRecDepth 20000 in
theorem wM_X10_296 : Cond.methodLink "StateSharesModel" 296 (yX10_together) ∈ lw_gd := lw_in 1384 (by decide +kernel) rfl
set_option maxRecDepth 20000 in
theorem wi_X10_together : Cond.instanceMethod (yX10_together) ∈ lw_gd := lw_in 1386 (by decide +kernel) rfl
set_option maxRecDepth 20000 in
theorem wS_X10_together : Cond.selects "StateSharesModel" (yX10_together) (yX10_together) ∈ lw_gd := lw_inS (q := ((yX10_together), 33)) 75 (by decide +kernel)
set_option maxRecDepth 20000 in
theorem wc_X10_together : Cond.code yX10_together cX10_together 4 none ∈ lw_gd := lw_in 1387 (by decide +kernel) rfl
set_option maxRecDepth 20000 in
theorem wL_X10_299 : Cond.constantLong "StateSharesModel" 299 (-1000000) ∈ lw_gd := lw_in 1396 (by decide +kernel) rfl
set_option maxRecDepth 20000 in
theorem wL_X10_301 : Cond.constantLong "StateSharesModel" 301 (1000000) ∈ lw_gd := lw_in 1397 (by decide +kernel) rfl
set_option maxRecDepth 20000 in
theorem wF_X10_55 : Cond.fieldLink "StateSharesModel" 55 "StateSharesModel" "worths" "[J" ∈ lw_gd := lw_in 1056 (by decide +kernel) rfl
set_option maxRecDepth 20000 in
theorem wM_X10_303 : Cond.methodLink "StateSharesModel" 303 (yX10_first) ∈ lw_gd := lw_in 1406 (by decide +kernel) rfl
set_option maxRecDepth 20000 in
theorem wi_X10_first : Cond.instanceMethod (yX10_first) ∈ lw_gd := lw_in 1408 (by decide +kernel) rfl
set_option maxRecDepth 20000 in
theorem wS_X10_first : Cond.selects "StateSharesModel" (yX10_first) (yX10_first) ∈ lw_gd := lw_inS (q := ((yX10_first), 33)) 76 (by decide +kernel)
set_option maxRecDepth 20000 in
theorem wc_X10_first : Cond.code yX10_first cX10_first 4 (some .int) ∈ lw_gd := lw_in 1409 (by decide +kernel) rfl
set_option maxRecDepth 20000 in
theorem wL_X10_306 : Cond.constantLong "StateSharesModel" 306 (1000003) ∈ lw_gd := lw_in 1410 (by decide +kernel) rfl
set_option maxRecDepth 20000 in
theorem wL_X10_308 : Cond.constantLong "StateSharesModel" 308 (7919) ∈ lw_gd := lw_in 1411 (by decide +kernel) rfl
set_option maxRecDepth 20000 in
theorem wL_X10_310 : Cond.constantLong "StateSharesModel" 310 (6364136223846793005) ∈ lw_gd := lw_in 1412 (by decide +kernel) rfl
set_option maxRecDepth 20000 in
theorem wL_X10_312 : Cond.constantLong "StateSharesModel" 312 (1442695040888963407) ∈ lw_gd := lw_in 1413 (by decide +kernel) rfl
set_option maxRecDepth 20000 in
theorem wL_X10_314 : Cond.constantLong "StateSharesModel" 314 (2147483648) ∈ lw_gd := lw_in 1414 (by decide +kernel) rfl
abbrev M_X10_agree : xM := (yX10_agree, cX10_agree, 17, (some .long), { frames := 1, cells := 0, slots := 0, locals := 29 })
abbrev M_X10_at : xM := (yX10_at, cX10_at, 4, (some .long), { frames := 8, cells := 0, slots := 0, locals := 192 })
abbrev M_X10_drawn : xM := (yX10_drawn, cX10_drawn, 14, (some .int), { frames := 5, cells := 0, slots := 0, locals := 128 })
abbrev M_X10_event : xM := (yX10_event, cX10_event, 8, (some .boolean), { frames := 3, cells := 0, slots := 0, locals := 79 })
abbrev M_X10_first : xM := (yX10_first, cX10_first, 4, (some .int), { frames := 4, cells := 0, slots := 0, locals := 104 })
abbrev M_X10_foretell : xM := (yX10_foretell, cX10_foretell, 3, none, { frames := 6, cells := 0, slots := 0, locals := 149 })
abbrev M_X10_goes : xM := (yX10_goes, cX10_goes, 7, none, { frames := 4, cells := 0, slots := 0, locals := 99 })
abbrev M_X10_isForetold : xM := (yX10_isForetold, cX10_isForetold, 2, (some .boolean), { frames := 7, cells := 0, slots := 0, locals := 171 })
abbrev M_X10_isFraction : xM := (yX10_isFraction, cX10_isFraction, 4, (some .boolean), { frames := 1, cells := 0, slots := 0, locals := 25 })
abbrev M_X10_part2 : xM := (yX10_part2, cX10_part2, 4, (some .boolean), { frames := 2, cells := 0, slots := 0, locals := 46 })
abbrev M_X10_start : xM := (yX10_start, cX10_start, 6, (some .boolean), { frames := 2, cells := 0, slots := 0, locals := 48 })
abbrev M_X10_step : xM := (yX10_step, cX10_step, 5, none, { frames := 5, cells := 0, slots := 0, locals := 125 })
abbrev M_X10_sums : xM := (yX10_sums, cX10_sums, 2, (some .boolean), { frames := 8, cells := 0, slots := 0, locals := 192 })
abbrev M_X10_target : xM := (yX10_target, cX10_target, 7, (some .int), { frames := 8, cells := 0, slots := 0, locals := 192 })
abbrev M_X10_tell : xM := (yX10_tell, cX10_tell, 12, (some .boolean), { frames := 2, cells := 0, slots := 0, locals := 48 })
abbrev M_X10_together : xM := (yX10_together, cX10_together, 4, none, { frames := 4, cells := 0, slots := 0, locals := 99 })
abbrev M_X10_works : xM := (yX10_works, cX10_works, 8, (some .boolean), { frames := 3, cells := 0, slots := 0, locals := 79 })
abbrev M_X10_worth : xM := (yX10_worth, cX10_worth, 6, (some .long), { frames := 8, cells := 0, slots := 0, locals := 192 })
theorem dX10_goes_0 : decode cX10_goes 0 = .ok (.iconst 0, 1) := by decide +kernel
theorem dX10_goes_1 : decode cX10_goes 1 = .ok (.istore 5, 2) := by decide +kernel
theorem dX10_goes_3 : decode cX10_goes 3 = .ok (.iload 5, 2) := by decide +kernel
theorem dX10_goes_5 : decode cX10_goes 5 = .ok (.iload 4, 2) := by decide +kernel
theorem dX10_goes_7 : decode cX10_goes 7 = .ok (.if_icmp .ge 77, 3) := by decide +kernel
theorem dX10_goes_10 : decode cX10_goes 10 = .ok (.iconst 4, 1) := by decide +kernel
theorem dX10_goes_11 : decode cX10_goes 11 = .ok (.bipush 12, 2) := by decide +kernel
theorem dX10_goes_13 : decode cX10_goes 13 = .ok (.iload_n 3, 1) := by decide +kernel
theorem dX10_goes_14 : decode cX10_goes 14 = .ok (.imul, 1) := by decide +kernel
theorem dX10_goes_15 : decode cX10_goes 15 = .ok (.iload 5, 2) := by decide +kernel
theorem dX10_goes_17 : decode cX10_goes 17 = .ok (.iadd, 1) := by decide +kernel
theorem dX10_goes_18 : decode cX10_goes 18 = .ok (.imul, 1) := by decide +kernel
theorem dX10_goes_19 : decode cX10_goes 19 = .ok (.istore 6, 2) := by decide +kernel
theorem dX10_goes_21 : decode cX10_goes 21 = .ok (.aload_n 0, 1) := by decide +kernel
theorem dX10_goes_22 : decode cX10_goes 22 = .ok (.iload_n 1, 1) := by decide +kernel
theorem dX10_goes_23 : decode cX10_goes 23 = .ok (.aload_n 2, 1) := by decide +kernel
theorem dX10_goes_24 : decode cX10_goes 24 = .ok (.iload 6, 2) := by decide +kernel
theorem dX10_goes_26 : decode cX10_goes 26 = .ok (.iaload, 1) := by decide +kernel
theorem dX10_goes_27 : decode cX10_goes 27 = .ok (.iadd, 1) := by decide +kernel
theorem dX10_goes_28 : decode cX10_goes 28 = .ok (.bipush 74, 2) := by decide +kernel
theorem dX10_goes_30 : decode cX10_goes 30 = .ok (.invokevirtual 232, 3) := by decide +kernel
theorem dX10_goes_33 : decode cX10_goes 33 = .ok (.aload_n 0, 1) := by decide +kernel
theorem dX10_goes_34 : decode cX10_goes 34 = .ok (.bipush 74, 2) := by decide +kernel
theorem dX10_goes_36 : decode cX10_goes 36 = .ok (.aload_n 2, 1) := by decide +kernel
theorem dX10_goes_37 : decode cX10_goes 37 = .ok (.iload 6, 2) := by decide +kernel
theorem dX10_goes_39 : decode cX10_goes 39 = .ok (.iconst 2, 1) := by decide +kernel
theorem dX10_goes_40 : decode cX10_goes 40 = .ok (.iadd, 1) := by decide +kernel
theorem dX10_goes_41 : decode cX10_goes 41 = .ok (.iaload, 1) := by decide +kernel
theorem dX10_goes_42 : decode cX10_goes 42 = .ok (.i2l, 1) := by decide +kernel
theorem dX10_goes_43 : decode cX10_goes 43 = .ok (.aload_n 2, 1) := by decide +kernel
theorem dX10_goes_44 : decode cX10_goes 44 = .ok (.iload 6, 2) := by decide +kernel
theorem dX10_goes_46 : decode cX10_goes 46 = .ok (.iconst 3, 1) := by decide +kernel
theorem dX10_goes_47 : decode cX10_goes 47 = .ok (.iadd, 1) := by decide +kernel
theorem dX10_goes_48 : decode cX10_goes 48 = .ok (.iaload, 1) := by decide +kernel
theorem dX10_goes_49 : decode cX10_goes 49 = .ok (.invokevirtual 249, 3) := by decide +kernel
theorem dX10_goes_52 : decode cX10_goes 52 = .ok (.aload_n 0, 1) := by decide +kernel
theorem dX10_goes_53 : decode cX10_goes 53 = .ok (.iload_n 1, 1) := by decide +kernel
theorem dX10_goes_54 : decode cX10_goes 54 = .ok (.aload_n 2, 1) := by decide +kernel
theorem dX10_goes_55 : decode cX10_goes 55 = .ok (.iload 6, 2) := by decide +kernel
theorem dX10_goes_57 : decode cX10_goes 57 = .ok (.iaload, 1) := by decide +kernel
theorem dX10_goes_58 : decode cX10_goes 58 = .ok (.iadd, 1) := by decide +kernel
theorem dX10_goes_59 : decode cX10_goes 59 = .ok (.bipush 74, 2) := by decide +kernel
theorem dX10_goes_61 : decode cX10_goes 61 = .ok (.invokevirtual 253, 3) := by decide +kernel
theorem dX10_goes_64 : decode cX10_goes 64 = .ok (.aload_n 0, 1) := by decide +kernel
theorem dX10_goes_65 : decode cX10_goes 65 = .ok (.iload_n 1, 1) := by decide +kernel
theorem dX10_goes_66 : decode cX10_goes 66 = .ok (.aload_n 2, 1) := by decide +kernel
theorem dX10_goes_67 : decode cX10_goes 67 = .ok (.iload 6, 2) := by decide +kernel
theorem dX10_goes_69 : decode cX10_goes 69 = .ok (.iconst 1, 1) := by decide +kernel
theorem dX10_goes_70 : decode cX10_goes 70 = .ok (.iadd, 1) := by decide +kernel
theorem dX10_goes_71 : decode cX10_goes 71 = .ok (.iaload, 1) := by decide +kernel
theorem dX10_goes_72 : decode cX10_goes 72 = .ok (.iadd, 1) := by decide +kernel
theorem dX10_goes_73 : decode cX10_goes 73 = .ok (.bipush 74, 2) := by decide +kernel
theorem dX10_goes_75 : decode cX10_goes 75 = .ok (.invokevirtual 256, 3) := by decide +kernel
theorem dX10_goes_78 : decode cX10_goes 78 = .ok (.iinc 5 1, 3) := by decide +kernel
theorem dX10_goes_81 : decode cX10_goes 81 = .ok (.goto (-78), 3) := by decide +kernel
theorem dX10_goes_84 : decode cX10_goes 84 = .ok (.return_, 1) := by decide +kernel
theorem dX10_step_0 : decode cX10_step 0 = .ok (.iconst 0, 1) := by decide +kernel
theorem dX10_step_1 : decode cX10_step 1 = .ok (.istore_n 2, 1) := by decide +kernel
theorem dX10_step_2 : decode cX10_step 2 = .ok (.iload_n 2, 1) := by decide +kernel
theorem dX10_step_3 : decode cX10_step 3 = .ok (.aload_n 0, 1) := by decide +kernel
theorem dX10_step_4 : decode cX10_step 4 = .ok (.getfield 75, 3) := by decide +kernel
theorem dX10_step_7 : decode cX10_step 7 = .ok (.if_icmp .ge 23, 3) := by decide +kernel
theorem dX10_step_10 : decode cX10_step 10 = .ok (.aload_n 0, 1) := by decide +kernel
theorem dX10_step_11 : decode cX10_step 11 = .ok (.bipush 6, 2) := by decide +kernel
theorem dX10_step_13 : decode cX10_step 13 = .ok (.iload_n 1, 1) := by decide +kernel
theorem dX10_step_14 : decode cX10_step 14 = .ok (.imul, 1) := by decide +kernel
theorem dX10_step_15 : decode cX10_step 15 = .ok (.iload_n 2, 1) := by decide +kernel
theorem dX10_step_16 : decode cX10_step 16 = .ok (.iadd, 1) := by decide +kernel
theorem dX10_step_17 : decode cX10_step 17 = .ok (.bipush 75, 2) := by decide +kernel
theorem dX10_step_19 : decode cX10_step 19 = .ok (.iload_n 2, 1) := by decide +kernel
theorem dX10_step_20 : decode cX10_step 20 = .ok (.iadd, 1) := by decide +kernel
theorem dX10_step_21 : decode cX10_step 21 = .ok (.invokevirtual 232, 3) := by decide +kernel
theorem dX10_step_24 : decode cX10_step 24 = .ok (.iinc 2 1, 3) := by decide +kernel
theorem dX10_step_27 : decode cX10_step 27 = .ok (.goto (-25), 3) := by decide +kernel
theorem dX10_step_30 : decode cX10_step 30 = .ok (.aload_n 0, 1) := by decide +kernel
theorem dX10_step_31 : decode cX10_step 31 = .ok (.bipush 75, 2) := by decide +kernel
theorem dX10_step_33 : decode cX10_step 33 = .ok (.aload_n 0, 1) := by decide +kernel
theorem dX10_step_34 : decode cX10_step 34 = .ok (.getfield 46, 3) := by decide +kernel
theorem dX10_step_37 : decode cX10_step 37 = .ok (.iload_n 1, 1) := by decide +kernel
theorem dX10_step_38 : decode cX10_step 38 = .ok (.aload_n 0, 1) := by decide +kernel
theorem dX10_step_39 : decode cX10_step 39 = .ok (.getfield 43, 3) := by decide +kernel
theorem dX10_step_42 : decode cX10_step 42 = .ok (.iload_n 1, 1) := by decide +kernel
theorem dX10_step_43 : decode cX10_step 43 = .ok (.iaload, 1) := by decide +kernel
theorem dX10_step_44 : decode cX10_step 44 = .ok (.invokevirtual 259, 3) := by decide +kernel
theorem dX10_step_47 : decode cX10_step 47 = .ok (.bipush 6, 2) := by decide +kernel
theorem dX10_step_49 : decode cX10_step 49 = .ok (.iload_n 1, 1) := by decide +kernel
theorem dX10_step_50 : decode cX10_step 50 = .ok (.iconst 1, 1) := by decide +kernel
theorem dX10_step_51 : decode cX10_step 51 = .ok (.iadd, 1) := by decide +kernel
theorem dX10_step_52 : decode cX10_step 52 = .ok (.imul, 1) := by decide +kernel
theorem dX10_step_53 : decode cX10_step 53 = .ok (.istore_n 2, 1) := by decide +kernel
theorem dX10_step_54 : decode cX10_step 54 = .ok (.iconst 0, 1) := by decide +kernel
theorem dX10_step_55 : decode cX10_step 55 = .ok (.istore_n 3, 1) := by decide +kernel
theorem dX10_step_56 : decode cX10_step 56 = .ok (.iload_n 3, 1) := by decide +kernel
theorem dX10_step_57 : decode cX10_step 57 = .ok (.aload_n 0, 1) := by decide +kernel
theorem dX10_step_58 : decode cX10_step 58 = .ok (.getfield 75, 3) := by decide +kernel
theorem dX10_step_61 : decode cX10_step 61 = .ok (.if_icmp .ge 75, 3) := by decide +kernel
theorem dX10_step_64 : decode cX10_step 64 = .ok (.aload_n 0, 1) := by decide +kernel
theorem dX10_step_65 : decode cX10_step 65 = .ok (.iload_n 2, 1) := by decide +kernel
theorem dX10_step_66 : decode cX10_step 66 = .ok (.iload_n 3, 1) := by decide +kernel
theorem dX10_step_67 : decode cX10_step 67 = .ok (.iadd, 1) := by decide +kernel
theorem dX10_step_68 : decode cX10_step 68 = .ok (.lconst 0, 1) := by decide +kernel
theorem dX10_step_69 : decode cX10_step 69 = .ok (.invokevirtual 82, 3) := by decide +kernel
theorem dX10_step_72 : decode cX10_step 72 = .ok (.iconst 0, 1) := by decide +kernel
theorem dX10_step_73 : decode cX10_step 73 = .ok (.istore 4, 2) := by decide +kernel
theorem dX10_step_75 : decode cX10_step 75 = .ok (.iload 4, 2) := by decide +kernel
theorem dX10_step_77 : decode cX10_step 77 = .ok (.aload_n 0, 1) := by decide +kernel
theorem dX10_step_78 : decode cX10_step 78 = .ok (.getfield 75, 3) := by decide +kernel
theorem dX10_step_81 : decode cX10_step 81 = .ok (.if_icmp .ge 49, 3) := by decide +kernel
theorem dX10_step_84 : decode cX10_step 84 = .ok (.aload_n 0, 1) := by decide +kernel
theorem dX10_step_85 : decode cX10_step 85 = .ok (.bipush 75, 2) := by decide +kernel
theorem dX10_step_87 : decode cX10_step 87 = .ok (.iload 4, 2) := by decide +kernel
theorem dX10_step_89 : decode cX10_step 89 = .ok (.iadd, 1) := by decide +kernel
theorem dX10_step_90 : decode cX10_step 90 = .ok (.bipush 81, 2) := by decide +kernel
theorem dX10_step_92 : decode cX10_step 92 = .ok (.invokevirtual 232, 3) := by decide +kernel
theorem dX10_step_95 : decode cX10_step 95 = .ok (.aload_n 0, 1) := by decide +kernel
theorem dX10_step_96 : decode cX10_step 96 = .ok (.bipush 81, 2) := by decide +kernel
theorem dX10_step_98 : decode cX10_step 98 = .ok (.aload_n 0, 1) := by decide +kernel
theorem dX10_step_99 : decode cX10_step 99 = .ok (.iload 4, 2) := by decide +kernel
theorem dX10_step_101 : decode cX10_step 101 = .ok (.iload_n 3, 1) := by decide +kernel
theorem dX10_step_102 : decode cX10_step 102 = .ok (.invokevirtual 205, 3) := by decide +kernel
theorem dX10_step_105 : decode cX10_step 105 = .ok (.i2l, 1) := by decide +kernel
theorem dX10_step_106 : decode cX10_step 106 = .ok (.aload_n 0, 1) := by decide +kernel
theorem dX10_step_107 : decode cX10_step 107 = .ok (.iload 4, 2) := by decide +kernel
theorem dX10_step_109 : decode cX10_step 109 = .ok (.invokevirtual 208, 3) := by decide +kernel
theorem dX10_step_112 : decode cX10_step 112 = .ok (.invokevirtual 249, 3) := by decide +kernel
theorem dX10_step_115 : decode cX10_step 115 = .ok (.aload_n 0, 1) := by decide +kernel
theorem dX10_step_116 : decode cX10_step 116 = .ok (.iload_n 2, 1) := by decide +kernel
theorem dX10_step_117 : decode cX10_step 117 = .ok (.iload_n 3, 1) := by decide +kernel
theorem dX10_step_118 : decode cX10_step 118 = .ok (.iadd, 1) := by decide +kernel
theorem dX10_step_119 : decode cX10_step 119 = .ok (.bipush 81, 2) := by decide +kernel
theorem dX10_step_121 : decode cX10_step 121 = .ok (.invokevirtual 256, 3) := by decide +kernel
theorem dX10_step_124 : decode cX10_step 124 = .ok (.iinc 4 1, 3) := by decide +kernel
theorem dX10_step_127 : decode cX10_step 127 = .ok (.goto (-52), 3) := by decide +kernel
theorem dX10_step_130 : decode cX10_step 130 = .ok (.iinc 3 1, 3) := by decide +kernel
theorem dX10_step_133 : decode cX10_step 133 = .ok (.goto (-77), 3) := by decide +kernel
theorem dX10_step_136 : decode cX10_step 136 = .ok (.aload_n 0, 1) := by decide +kernel
theorem dX10_step_137 : decode cX10_step 137 = .ok (.iload_n 2, 1) := by decide +kernel
theorem dX10_step_138 : decode cX10_step 138 = .ok (.aload_n 0, 1) := by decide +kernel
theorem dX10_step_139 : decode cX10_step 139 = .ok (.getfield 52, 3) := by decide +kernel
theorem dX10_step_142 : decode cX10_step 142 = .ok (.iload_n 1, 1) := by decide +kernel
theorem dX10_step_143 : decode cX10_step 143 = .ok (.aload_n 0, 1) := by decide +kernel
theorem dX10_step_144 : decode cX10_step 144 = .ok (.getfield 49, 3) := by decide +kernel
theorem dX10_step_147 : decode cX10_step 147 = .ok (.iload_n 1, 1) := by decide +kernel
theorem dX10_step_148 : decode cX10_step 148 = .ok (.iaload, 1) := by decide +kernel
theorem dX10_step_149 : decode cX10_step 149 = .ok (.invokevirtual 259, 3) := by decide +kernel
theorem dX10_step_152 : decode cX10_step 152 = .ok (.aload_n 0, 1) := by decide +kernel
theorem dX10_step_153 : decode cX10_step 153 = .ok (.getfield 71, 3) := by decide +kernel
theorem dX10_step_156 : decode cX10_step 156 = .ok (.iload_n 1, 1) := by decide +kernel
theorem dX10_step_157 : decode cX10_step 157 = .ok (.iconst 1, 1) := by decide +kernel
theorem dX10_step_158 : decode cX10_step 158 = .ok (.iadd, 1) := by decide +kernel
theorem dX10_step_159 : decode cX10_step 159 = .ok (.aload_n 0, 1) := by decide +kernel
theorem dX10_step_160 : decode cX10_step 160 = .ok (.getfield 71, 3) := by decide +kernel
theorem dX10_step_163 : decode cX10_step 163 = .ok (.iload_n 1, 1) := by decide +kernel
theorem dX10_step_164 : decode cX10_step 164 = .ok (.baload, 1) := by decide +kernel
theorem dX10_step_165 : decode cX10_step 165 = .ok (.bastore, 1) := by decide +kernel
theorem dX10_step_166 : decode cX10_step 166 = .ok (.iconst 0, 1) := by decide +kernel
theorem dX10_step_167 : decode cX10_step 167 = .ok (.istore_n 3, 1) := by decide +kernel
theorem dX10_step_168 : decode cX10_step 168 = .ok (.iload_n 3, 1) := by decide +kernel
theorem dX10_step_169 : decode cX10_step 169 = .ok (.aload_n 0, 1) := by decide +kernel
theorem dX10_step_170 : decode cX10_step 170 = .ok (.getfield 75, 3) := by decide +kernel
theorem dX10_step_173 : decode cX10_step 173 = .ok (.if_icmp .ge 43, 3) := by decide +kernel
theorem dX10_step_176 : decode cX10_step 176 = .ok (.aload_n 0, 1) := by decide +kernel
theorem dX10_step_177 : decode cX10_step 177 = .ok (.getfield 71, 3) := by decide +kernel
theorem dX10_step_180 : decode cX10_step 180 = .ok (.iload_n 1, 1) := by decide +kernel
theorem dX10_step_181 : decode cX10_step 181 = .ok (.iconst 1, 1) := by decide +kernel
theorem dX10_step_182 : decode cX10_step 182 = .ok (.iadd, 1) := by decide +kernel
theorem dX10_step_183 : decode cX10_step 183 = .ok (.aload_n 0, 1) := by decide +kernel
theorem dX10_step_184 : decode cX10_step 184 = .ok (.getfield 71, 3) := by decide +kernel
theorem dX10_step_187 : decode cX10_step 187 = .ok (.iload_n 1, 1) := by decide +kernel
theorem dX10_step_188 : decode cX10_step 188 = .ok (.iconst 1, 1) := by decide +kernel
theorem dX10_step_189 : decode cX10_step 189 = .ok (.iadd, 1) := by decide +kernel
theorem dX10_step_190 : decode cX10_step 190 = .ok (.baload, 1) := by decide +kernel
theorem dX10_step_191 : decode cX10_step 191 = .ok (.ifCond .ne 13, 3) := by decide +kernel
theorem dX10_step_194 : decode cX10_step 194 = .ok (.aload_n 0, 1) := by decide +kernel
theorem dX10_step_195 : decode cX10_step 195 = .ok (.iload_n 2, 1) := by decide +kernel
theorem dX10_step_196 : decode cX10_step 196 = .ok (.iload_n 3, 1) := by decide +kernel
theorem dX10_step_197 : decode cX10_step 197 = .ok (.iadd, 1) := by decide +kernel
theorem dX10_step_198 : decode cX10_step 198 = .ok (.invokevirtual 263, 3) := by decide +kernel
theorem dX10_step_201 : decode cX10_step 201 = .ok (.ifCond .eq 7, 3) := by decide +kernel
theorem dX10_step_204 : decode cX10_step 204 = .ok (.iconst 1, 1) := by decide +kernel
theorem dX10_step_205 : decode cX10_step 205 = .ok (.goto 4, 3) := by decide +kernel
theorem dX10_step_208 : decode cX10_step 208 = .ok (.iconst 0, 1) := by decide +kernel
theorem dX10_step_209 : decode cX10_step 209 = .ok (.bastore, 1) := by decide +kernel
theorem dX10_step_210 : decode cX10_step 210 = .ok (.iinc 3 1, 3) := by decide +kernel
theorem dX10_step_213 : decode cX10_step 213 = .ok (.goto (-45), 3) := by decide +kernel
theorem dX10_step_216 : decode cX10_step 216 = .ok (.return_, 1) := by decide +kernel
theorem dX10_foretell_0 : decode cX10_foretell 0 = .ok (.aload_n 0, 1) := by decide +kernel
theorem dX10_foretell_1 : decode cX10_foretell 1 = .ok (.getfield 116, 3) := by decide +kernel
theorem dX10_foretell_4 : decode cX10_foretell 4 = .ok (.ifCond .ne 103, 3) := by decide +kernel
theorem dX10_foretell_7 : decode cX10_foretell 7 = .ok (.aload_n 0, 1) := by decide +kernel
theorem dX10_foretell_8 : decode cX10_foretell 8 = .ok (.invokevirtual 194, 3) := by decide +kernel
theorem dX10_foretell_11 : decode cX10_foretell 11 = .ok (.iconst 0, 1) := by decide +kernel
theorem dX10_foretell_12 : decode cX10_foretell 12 = .ok (.istore_n 2, 1) := by decide +kernel
theorem dX10_foretell_13 : decode cX10_foretell 13 = .ok (.iload_n 2, 1) := by decide +kernel
theorem dX10_foretell_14 : decode cX10_foretell 14 = .ok (.aload_n 0, 1) := by decide +kernel
theorem dX10_foretell_15 : decode cX10_foretell 15 = .ok (.getfield 75, 3) := by decide +kernel
theorem dX10_foretell_18 : decode cX10_foretell 18 = .ok (.if_icmp .ge 72, 3) := by decide +kernel
theorem dX10_foretell_21 : decode cX10_foretell 21 = .ok (.aload_n 0, 1) := by decide +kernel
theorem dX10_foretell_22 : decode cX10_foretell 22 = .ok (.iload_n 2, 1) := by decide +kernel
theorem dX10_foretell_23 : decode cX10_foretell 23 = .ok (.aload_n 0, 1) := by decide +kernel
theorem dX10_foretell_24 : decode cX10_foretell 24 = .ok (.getfield 266, 3) := by decide +kernel
theorem dX10_foretell_27 : decode cX10_foretell 27 = .ok (.ifCond .eq 7, 3) := by decide +kernel
theorem dX10_foretell_30 : decode cX10_foretell 30 = .ok (.lconst 1, 1) := by decide +kernel
theorem dX10_foretell_31 : decode cX10_foretell 31 = .ok (.goto 12, 3) := by decide +kernel
theorem dX10_foretell_34 : decode cX10_foretell 34 = .ok (.iload_n 2, 1) := by decide +kernel
theorem dX10_foretell_35 : decode cX10_foretell 35 = .ok (.ifCond .ne 7, 3) := by decide +kernel
theorem dX10_foretell_38 : decode cX10_foretell 38 = .ok (.lconst 1, 1) := by decide +kernel
theorem dX10_foretell_39 : decode cX10_foretell 39 = .ok (.goto 4, 3) := by decide +kernel
theorem dX10_foretell_42 : decode cX10_foretell 42 = .ok (.lconst 0, 1) := by decide +kernel
theorem dX10_foretell_43 : decode cX10_foretell 43 = .ok (.invokevirtual 82, 3) := by decide +kernel
theorem dX10_foretell_46 : decode cX10_foretell 46 = .ok (.aload_n 0, 1) := by decide +kernel
theorem dX10_foretell_47 : decode cX10_foretell 47 = .ok (.getfield 266, 3) := by decide +kernel
theorem dX10_foretell_50 : decode cX10_foretell 50 = .ok (.ifCond .eq 34, 3) := by decide +kernel
theorem dX10_foretell_53 : decode cX10_foretell 53 = .ok (.aload_n 0, 1) := by decide +kernel
theorem dX10_foretell_54 : decode cX10_foretell 54 = .ok (.iload_n 2, 1) := by decide +kernel
theorem dX10_foretell_55 : decode cX10_foretell 55 = .ok (.aload_n 0, 1) := by decide +kernel
theorem dX10_foretell_56 : decode cX10_foretell 56 = .ok (.getfield 37, 3) := by decide +kernel
theorem dX10_foretell_59 : decode cX10_foretell 59 = .ok (.iload_n 2, 1) := by decide +kernel
theorem dX10_foretell_60 : decode cX10_foretell 60 = .ok (.iaload, 1) := by decide +kernel
theorem dX10_foretell_61 : decode cX10_foretell 61 = .ok (.i2l, 1) := by decide +kernel
theorem dX10_foretell_62 : decode cX10_foretell 62 = .ok (.aload_n 0, 1) := by decide +kernel
theorem dX10_foretell_63 : decode cX10_foretell 63 = .ok (.getfield 40, 3) := by decide +kernel
theorem dX10_foretell_66 : decode cX10_foretell 66 = .ok (.iload_n 2, 1) := by decide +kernel
theorem dX10_foretell_67 : decode cX10_foretell 67 = .ok (.iaload, 1) := by decide +kernel
theorem dX10_foretell_68 : decode cX10_foretell 68 = .ok (.ifCond .ne 7, 3) := by decide +kernel
theorem dX10_foretell_71 : decode cX10_foretell 71 = .ok (.iconst 1, 1) := by decide +kernel
theorem dX10_foretell_72 : decode cX10_foretell 72 = .ok (.goto 9, 3) := by decide +kernel
theorem dX10_foretell_75 : decode cX10_foretell 75 = .ok (.aload_n 0, 1) := by decide +kernel
theorem dX10_foretell_76 : decode cX10_foretell 76 = .ok (.getfield 40, 3) := by decide +kernel
theorem dX10_foretell_79 : decode cX10_foretell 79 = .ok (.iload_n 2, 1) := by decide +kernel
theorem dX10_foretell_80 : decode cX10_foretell 80 = .ok (.iaload, 1) := by decide +kernel
theorem dX10_foretell_81 : decode cX10_foretell 81 = .ok (.invokevirtual 249, 3) := by decide +kernel
theorem dX10_foretell_84 : decode cX10_foretell 84 = .ok (.iinc 2 1, 3) := by decide +kernel
theorem dX10_foretell_87 : decode cX10_foretell 87 = .ok (.goto (-74), 3) := by decide +kernel
theorem dX10_foretell_90 : decode cX10_foretell 90 = .ok (.aload_n 0, 1) := by decide +kernel
theorem dX10_foretell_91 : decode cX10_foretell 91 = .ok (.getfield 71, 3) := by decide +kernel
theorem dX10_foretell_94 : decode cX10_foretell 94 = .ok (.iconst 0, 1) := by decide +kernel
theorem dX10_foretell_95 : decode cX10_foretell 95 = .ok (.iconst 0, 1) := by decide +kernel
theorem dX10_foretell_96 : decode cX10_foretell 96 = .ok (.bastore, 1) := by decide +kernel
theorem dX10_foretell_97 : decode cX10_foretell 97 = .ok (.aload_n 0, 1) := by decide +kernel
theorem dX10_foretell_98 : decode cX10_foretell 98 = .ok (.iconst 0, 1) := by decide +kernel
theorem dX10_foretell_99 : decode cX10_foretell 99 = .ok (.putfield 269, 3) := by decide +kernel
theorem dX10_foretell_102 : decode cX10_foretell 102 = .ok (.aload_n 0, 1) := by decide +kernel
theorem dX10_foretell_103 : decode cX10_foretell 103 = .ok (.iconst 1, 1) := by decide +kernel
theorem dX10_foretell_104 : decode cX10_foretell 104 = .ok (.putfield 116, 3) := by decide +kernel
theorem dX10_foretell_107 : decode cX10_foretell 107 = .ok (.aload_n 0, 1) := by decide +kernel
theorem dX10_foretell_108 : decode cX10_foretell 108 = .ok (.invokevirtual 194, 3) := by decide +kernel
theorem dX10_foretell_111 : decode cX10_foretell 111 = .ok (.aload_n 0, 1) := by decide +kernel
theorem dX10_foretell_112 : decode cX10_foretell 112 = .ok (.getfield 269, 3) := by decide +kernel
theorem dX10_foretell_115 : decode cX10_foretell 115 = .ok (.iload_n 1, 1) := by decide +kernel
theorem dX10_foretell_116 : decode cX10_foretell 116 = .ok (.if_icmp .ge 51, 3) := by decide +kernel
theorem dX10_foretell_119 : decode cX10_foretell 119 = .ok (.aload_n 0, 1) := by decide +kernel
theorem dX10_foretell_120 : decode cX10_foretell 120 = .ok (.getfield 71, 3) := by decide +kernel
theorem dX10_foretell_123 : decode cX10_foretell 123 = .ok (.aload_n 0, 1) := by decide +kernel
theorem dX10_foretell_124 : decode cX10_foretell 124 = .ok (.getfield 269, 3) := by decide +kernel
theorem dX10_foretell_127 : decode cX10_foretell 127 = .ok (.baload, 1) := by decide +kernel
theorem dX10_foretell_128 : decode cX10_foretell 128 = .ok (.ifCond .eq 18, 3) := by decide +kernel
theorem dX10_foretell_131 : decode cX10_foretell 131 = .ok (.aload_n 0, 1) := by decide +kernel
theorem dX10_foretell_132 : decode cX10_foretell 132 = .ok (.getfield 71, 3) := by decide +kernel
theorem dX10_foretell_135 : decode cX10_foretell 135 = .ok (.aload_n 0, 1) := by decide +kernel
theorem dX10_foretell_136 : decode cX10_foretell 136 = .ok (.getfield 269, 3) := by decide +kernel
theorem dX10_foretell_139 : decode cX10_foretell 139 = .ok (.iconst 1, 1) := by decide +kernel
theorem dX10_foretell_140 : decode cX10_foretell 140 = .ok (.iadd, 1) := by decide +kernel
theorem dX10_foretell_141 : decode cX10_foretell 141 = .ok (.iconst 1, 1) := by decide +kernel
theorem dX10_foretell_142 : decode cX10_foretell 142 = .ok (.bastore, 1) := by decide +kernel
theorem dX10_foretell_143 : decode cX10_foretell 143 = .ok (.goto 11, 3) := by decide +kernel
theorem dX10_foretell_146 : decode cX10_foretell 146 = .ok (.aload_n 0, 1) := by decide +kernel
theorem dX10_foretell_147 : decode cX10_foretell 147 = .ok (.aload_n 0, 1) := by decide +kernel
theorem dX10_foretell_148 : decode cX10_foretell 148 = .ok (.getfield 269, 3) := by decide +kernel
theorem dX10_foretell_151 : decode cX10_foretell 151 = .ok (.invokevirtual 272, 3) := by decide +kernel
theorem dX10_foretell_154 : decode cX10_foretell 154 = .ok (.aload_n 0, 1) := by decide +kernel
theorem dX10_foretell_155 : decode cX10_foretell 155 = .ok (.dup, 1) := by decide +kernel
theorem dX10_foretell_156 : decode cX10_foretell 156 = .ok (.getfield 269, 3) := by decide +kernel
theorem dX10_foretell_159 : decode cX10_foretell 159 = .ok (.iconst 1, 1) := by decide +kernel
theorem dX10_foretell_160 : decode cX10_foretell 160 = .ok (.iadd, 1) := by decide +kernel
theorem dX10_foretell_161 : decode cX10_foretell 161 = .ok (.putfield 269, 3) := by decide +kernel
theorem dX10_foretell_164 : decode cX10_foretell 164 = .ok (.goto (-53), 3) := by decide +kernel
theorem dX10_foretell_167 : decode cX10_foretell 167 = .ok (.return_, 1) := by decide +kernel
theorem dX10_isForetold_0 : decode cX10_isForetold 0 = .ok (.iload_n 1, 1) := by decide +kernel
theorem dX10_isForetold_1 : decode cX10_isForetold 1 = .ok (.i2l, 1) := by decide +kernel
theorem dX10_isForetold_2 : decode cX10_isForetold 2 = .ok (.lconst 0, 1) := by decide +kernel
theorem dX10_isForetold_3 : decode cX10_isForetold 3 = .ok (.ldc2_w 100, 3) := by decide +kernel
theorem dX10_isForetold_6 : decode cX10_isForetold 6 = .ok (.invokestatic 94, 3) := by decide +kernel
theorem dX10_isForetold_9 : decode cX10_isForetold 9 = .ok (.ifCond .ne 5, 3) := by decide +kernel
theorem dX10_isForetold_12 : decode cX10_isForetold 12 = .ok (.iconst 0, 1) := by decide +kernel
theorem dX10_isForetold_13 : decode cX10_isForetold 13 = .ok (.ireturn, 1) := by decide +kernel
theorem dX10_isForetold_14 : decode cX10_isForetold 14 = .ok (.aload_n 0, 1) := by decide +kernel
theorem dX10_isForetold_15 : decode cX10_isForetold 15 = .ok (.iload_n 1, 1) := by decide +kernel
theorem dX10_isForetold_16 : decode cX10_isForetold 16 = .ok (.invokevirtual 275, 3) := by decide +kernel
theorem dX10_isForetold_19 : decode cX10_isForetold 19 = .ok (.aload_n 0, 1) := by decide +kernel
theorem dX10_isForetold_20 : decode cX10_isForetold 20 = .ok (.getfield 71, 3) := by decide +kernel
theorem dX10_isForetold_23 : decode cX10_isForetold 23 = .ok (.iload_n 1, 1) := by decide +kernel
theorem dX10_isForetold_24 : decode cX10_isForetold 24 = .ok (.baload, 1) := by decide +kernel
theorem dX10_isForetold_25 : decode cX10_isForetold 25 = .ok (.ifCond .ne 7, 3) := by decide +kernel
theorem dX10_isForetold_28 : decode cX10_isForetold 28 = .ok (.iconst 1, 1) := by decide +kernel
theorem dX10_isForetold_29 : decode cX10_isForetold 29 = .ok (.goto 4, 3) := by decide +kernel
theorem dX10_isForetold_32 : decode cX10_isForetold 32 = .ok (.iconst 0, 1) := by decide +kernel
theorem dX10_isForetold_33 : decode cX10_isForetold 33 = .ok (.ireturn, 1) := by decide +kernel
theorem dX10_at_0 : decode cX10_at 0 = .ok (.aload_n 0, 1) := by decide +kernel
theorem dX10_at_1 : decode cX10_at 1 = .ok (.aload_n 0, 1) := by decide +kernel
theorem dX10_at_2 : decode cX10_at 2 = .ok (.iload_n 1, 1) := by decide +kernel
theorem dX10_at_3 : decode cX10_at 3 = .ok (.invokevirtual 108, 3) := by decide +kernel
theorem dX10_at_6 : decode cX10_at 6 = .ok (.ifCond .eq 7, 3) := by decide +kernel
theorem dX10_at_9 : decode cX10_at 9 = .ok (.iconst 0, 1) := by decide +kernel
theorem dX10_at_10 : decode cX10_at 10 = .ok (.goto 4, 3) := by decide +kernel
theorem dX10_at_13 : decode cX10_at 13 = .ok (.iconst 1, 1) := by decide +kernel
theorem dX10_at_14 : decode cX10_at 14 = .ok (.putfield 91, 3) := by decide +kernel
theorem dX10_at_17 : decode cX10_at 17 = .ok (.aload_n 0, 1) := by decide +kernel
theorem dX10_at_18 : decode cX10_at 18 = .ok (.getfield 91, 3) := by decide +kernel
theorem dX10_at_21 : decode cX10_at 21 = .ok (.ifCond .le 5, 3) := by decide +kernel
theorem dX10_at_24 : decode cX10_at 24 = .ok (.lconst 0, 1) := by decide +kernel
theorem dX10_at_25 : decode cX10_at 25 = .ok (.lreturn, 1) := by decide +kernel
theorem dX10_at_26 : decode cX10_at 26 = .ok (.aload_n 0, 1) := by decide +kernel
theorem dX10_at_27 : decode cX10_at 27 = .ok (.iload_n 2, 1) := by decide +kernel
theorem dX10_at_28 : decode cX10_at 28 = .ok (.invokevirtual 278, 3) := by decide +kernel
theorem dX10_at_31 : decode cX10_at 31 = .ok (.ifCond .eq 17, 3) := by decide +kernel
theorem dX10_at_34 : decode cX10_at 34 = .ok (.aload_n 0, 1) := by decide +kernel
theorem dX10_at_35 : decode cX10_at 35 = .ok (.bipush 6, 2) := by decide +kernel
theorem dX10_at_37 : decode cX10_at 37 = .ok (.iload_n 2, 1) := by decide +kernel
theorem dX10_at_38 : decode cX10_at 38 = .ok (.imul, 1) := by decide +kernel
theorem dX10_at_39 : decode cX10_at 39 = .ok (.iload_n 1, 1) := by decide +kernel
theorem dX10_at_40 : decode cX10_at 40 = .ok (.iadd, 1) := by decide +kernel
theorem dX10_at_41 : decode cX10_at 41 = .ok (.iload_n 3, 1) := by decide +kernel
theorem dX10_at_42 : decode cX10_at 42 = .ok (.invokevirtual 281, 3) := by decide +kernel
theorem dX10_at_45 : decode cX10_at 45 = .ok (.goto 6, 3) := by decide +kernel
theorem dX10_at_48 : decode cX10_at 48 = .ok (.ldc2_w 215, 3) := by decide +kernel
theorem dX10_at_51 : decode cX10_at 51 = .ok (.lreturn, 1) := by decide +kernel
theorem dX10_isFraction_0 : decode cX10_isFraction 0 = .ok (.lload_n 2, 1) := by decide +kernel
theorem dX10_isFraction_1 : decode cX10_isFraction 1 = .ok (.lconst 1, 1) := by decide +kernel
theorem dX10_isFraction_2 : decode cX10_isFraction 2 = .ok (.ldc2_w 284, 3) := by decide +kernel
theorem dX10_isFraction_5 : decode cX10_isFraction 5 = .ok (.invokestatic 94, 3) := by decide +kernel
theorem dX10_isFraction_8 : decode cX10_isFraction 8 = .ok (.ifCond .eq 16, 3) := by decide +kernel
theorem dX10_isFraction_11 : decode cX10_isFraction 11 = .ok (.lload_n 0, 1) := by decide +kernel
theorem dX10_isFraction_12 : decode cX10_isFraction 12 = .ok (.lconst 0, 1) := by decide +kernel
theorem dX10_isFraction_13 : decode cX10_isFraction 13 = .ok (.lload_n 2, 1) := by decide +kernel
theorem dX10_isFraction_14 : decode cX10_isFraction 14 = .ok (.invokestatic 94, 3) := by decide +kernel
theorem dX10_isFraction_17 : decode cX10_isFraction 17 = .ok (.ifCond .eq 7, 3) := by decide +kernel
theorem dX10_isFraction_20 : decode cX10_isFraction 20 = .ok (.iconst 1, 1) := by decide +kernel
theorem dX10_isFraction_21 : decode cX10_isFraction 21 = .ok (.goto 4, 3) := by decide +kernel
theorem dX10_isFraction_24 : decode cX10_isFraction 24 = .ok (.iconst 0, 1) := by decide +kernel
theorem dX10_isFraction_25 : decode cX10_isFraction 25 = .ok (.ireturn, 1) := by decide +kernel
theorem dX10_start_0 : decode cX10_start 0 = .ok (.aload_n 0, 1) := by decide +kernel
theorem dX10_start_1 : decode cX10_start 1 = .ok (.iconst 0, 1) := by decide +kernel
theorem dX10_start_2 : decode cX10_start 2 = .ok (.putfield 91, 3) := by decide +kernel
theorem dX10_start_5 : decode cX10_start 5 = .ok (.aload_n 0, 1) := by decide +kernel
theorem dX10_start_6 : decode cX10_start 6 = .ok (.iload_n 1, 1) := by decide +kernel
theorem dX10_start_7 : decode cX10_start 7 = .ok (.invokevirtual 108, 3) := by decide +kernel
theorem dX10_start_10 : decode cX10_start 10 = .ok (.ifCond .eq 12, 3) := by decide +kernel
theorem dX10_start_13 : decode cX10_start 13 = .ok (.lload_n 2, 1) := by decide +kernel
theorem dX10_start_14 : decode cX10_start 14 = .ok (.lload 4, 2) := by decide +kernel
theorem dX10_start_16 : decode cX10_start 16 = .ok (.invokestatic 286, 3) := by decide +kernel
theorem dX10_start_19 : decode cX10_start 19 = .ok (.ifCond .ne 5, 3) := by decide +kernel
theorem dX10_start_22 : decode cX10_start 22 = .ok (.iconst 0, 1) := by decide +kernel
theorem dX10_start_23 : decode cX10_start 23 = .ok (.ireturn, 1) := by decide +kernel
theorem dX10_start_24 : decode cX10_start 24 = .ok (.aload_n 0, 1) := by decide +kernel
theorem dX10_start_25 : decode cX10_start 25 = .ok (.iconst 1, 1) := by decide +kernel
theorem dX10_start_26 : decode cX10_start 26 = .ok (.putfield 266, 3) := by decide +kernel
theorem dX10_start_29 : decode cX10_start 29 = .ok (.aload_n 0, 1) := by decide +kernel
theorem dX10_start_30 : decode cX10_start 30 = .ok (.getfield 37, 3) := by decide +kernel
theorem dX10_start_33 : decode cX10_start 33 = .ok (.iload_n 1, 1) := by decide +kernel
theorem dX10_start_34 : decode cX10_start 34 = .ok (.lload_n 2, 1) := by decide +kernel
theorem dX10_start_35 : decode cX10_start 35 = .ok (.l2i, 1) := by decide +kernel
theorem dX10_start_36 : decode cX10_start 36 = .ok (.iastore, 1) := by decide +kernel
theorem dX10_start_37 : decode cX10_start 37 = .ok (.aload_n 0, 1) := by decide +kernel
theorem dX10_start_38 : decode cX10_start 38 = .ok (.getfield 40, 3) := by decide +kernel
theorem dX10_start_41 : decode cX10_start 41 = .ok (.iload_n 1, 1) := by decide +kernel
theorem dX10_start_42 : decode cX10_start 42 = .ok (.lload 4, 2) := by decide +kernel
theorem dX10_start_44 : decode cX10_start 44 = .ok (.l2i, 1) := by decide +kernel
theorem dX10_start_45 : decode cX10_start 45 = .ok (.iastore, 1) := by decide +kernel
theorem dX10_start_46 : decode cX10_start 46 = .ok (.aload_n 0, 1) := by decide +kernel
theorem dX10_start_47 : decode cX10_start 47 = .ok (.iconst 0, 1) := by decide +kernel
theorem dX10_start_48 : decode cX10_start 48 = .ok (.putfield 116, 3) := by decide +kernel
theorem dX10_start_51 : decode cX10_start 51 = .ok (.iconst 1, 1) := by decide +kernel
theorem dX10_start_52 : decode cX10_start 52 = .ok (.ireturn, 1) := by decide +kernel
theorem dX10_tell_0 : decode cX10_tell 0 = .ok (.aload_n 0, 1) := by decide +kernel
theorem dX10_tell_1 : decode cX10_tell 1 = .ok (.iconst 0, 1) := by decide +kernel
theorem dX10_tell_2 : decode cX10_tell 2 = .ok (.putfield 91, 3) := by decide +kernel
theorem dX10_tell_5 : decode cX10_tell 5 = .ok (.iload_n 3, 1) := by decide +kernel
theorem dX10_tell_6 : decode cX10_tell 6 = .ok (.i2l, 1) := by decide +kernel
theorem dX10_tell_7 : decode cX10_tell 7 = .ok (.lconst 0, 1) := by decide +kernel
theorem dX10_tell_8 : decode cX10_tell 8 = .ok (.ldc2_w 290, 3) := by decide +kernel
theorem dX10_tell_11 : decode cX10_tell 11 = .ok (.invokestatic 94, 3) := by decide +kernel
theorem dX10_tell_14 : decode cX10_tell 14 = .ok (.ifCond .eq 42, 3) := by decide +kernel
theorem dX10_tell_17 : decode cX10_tell 17 = .ok (.aload_n 0, 1) := by decide +kernel
theorem dX10_tell_18 : decode cX10_tell 18 = .ok (.iload 4, 2) := by decide +kernel
theorem dX10_tell_20 : decode cX10_tell 20 = .ok (.invokevirtual 108, 3) := by decide +kernel
theorem dX10_tell_23 : decode cX10_tell 23 = .ok (.ifCond .eq 33, 3) := by decide +kernel
theorem dX10_tell_26 : decode cX10_tell 26 = .ok (.aload_n 0, 1) := by decide +kernel
theorem dX10_tell_27 : decode cX10_tell 27 = .ok (.iload 5, 2) := by decide +kernel
theorem dX10_tell_29 : decode cX10_tell 29 = .ok (.invokevirtual 108, 3) := by decide +kernel
theorem dX10_tell_32 : decode cX10_tell 32 = .ok (.ifCond .eq 24, 3) := by decide +kernel
theorem dX10_tell_35 : decode cX10_tell 35 = .ok (.iload 4, 2) := by decide +kernel
theorem dX10_tell_37 : decode cX10_tell 37 = .ok (.iload 5, 2) := by decide +kernel
theorem dX10_tell_39 : decode cX10_tell 39 = .ok (.if_icmp .eq 17, 3) := by decide +kernel
theorem dX10_tell_42 : decode cX10_tell 42 = .ok (.lload 6, 2) := by decide +kernel
theorem dX10_tell_44 : decode cX10_tell 44 = .ok (.lload 8, 2) := by decide +kernel
theorem dX10_tell_46 : decode cX10_tell 46 = .ok (.invokestatic 286, 3) := by decide +kernel
theorem dX10_tell_49 : decode cX10_tell 49 = .ok (.ifCond .eq 7, 3) := by decide +kernel
theorem dX10_tell_52 : decode cX10_tell 52 = .ok (.iconst 1, 1) := by decide +kernel
theorem dX10_tell_53 : decode cX10_tell 53 = .ok (.goto 4, 3) := by decide +kernel
theorem dX10_tell_56 : decode cX10_tell 56 = .ok (.iconst 0, 1) := by decide +kernel
theorem dX10_tell_57 : decode cX10_tell 57 = .ok (.istore 10, 2) := by decide +kernel
theorem dX10_tell_59 : decode cX10_tell 59 = .ok (.iload 10, 2) := by decide +kernel
theorem dX10_tell_61 : decode cX10_tell 61 = .ok (.ifCond .eq 11, 3) := by decide +kernel
theorem dX10_tell_64 : decode cX10_tell 64 = .ok (.aload_n 2, 1) := by decide +kernel
theorem dX10_tell_65 : decode cX10_tell 65 = .ok (.iload_n 3, 1) := by decide +kernel
theorem dX10_tell_66 : decode cX10_tell 66 = .ok (.iaload, 1) := by decide +kernel
theorem dX10_tell_67 : decode cX10_tell 67 = .ok (.bipush 12, 2) := by decide +kernel
theorem dX10_tell_69 : decode cX10_tell 69 = .ok (.if_icmp .ne 5, 3) := by decide +kernel
theorem dX10_tell_72 : decode cX10_tell 72 = .ok (.iconst 0, 1) := by decide +kernel
theorem dX10_tell_73 : decode cX10_tell 73 = .ok (.ireturn, 1) := by decide +kernel
theorem dX10_tell_74 : decode cX10_tell 74 = .ok (.iconst 4, 1) := by decide +kernel
theorem dX10_tell_75 : decode cX10_tell 75 = .ok (.bipush 12, 2) := by decide +kernel
theorem dX10_tell_77 : decode cX10_tell 77 = .ok (.iload_n 3, 1) := by decide +kernel
theorem dX10_tell_78 : decode cX10_tell 78 = .ok (.imul, 1) := by decide +kernel
theorem dX10_tell_79 : decode cX10_tell 79 = .ok (.aload_n 2, 1) := by decide +kernel
theorem dX10_tell_80 : decode cX10_tell 80 = .ok (.iload_n 3, 1) := by decide +kernel
theorem dX10_tell_81 : decode cX10_tell 81 = .ok (.iaload, 1) := by decide +kernel
theorem dX10_tell_82 : decode cX10_tell 82 = .ok (.iadd, 1) := by decide +kernel
theorem dX10_tell_83 : decode cX10_tell 83 = .ok (.imul, 1) := by decide +kernel
theorem dX10_tell_84 : decode cX10_tell 84 = .ok (.istore 11, 2) := by decide +kernel
theorem dX10_tell_86 : decode cX10_tell 86 = .ok (.aload_n 1, 1) := by decide +kernel
theorem dX10_tell_87 : decode cX10_tell 87 = .ok (.iload 11, 2) := by decide +kernel
theorem dX10_tell_89 : decode cX10_tell 89 = .ok (.iload 4, 2) := by decide +kernel
theorem dX10_tell_91 : decode cX10_tell 91 = .ok (.iastore, 1) := by decide +kernel
theorem dX10_tell_92 : decode cX10_tell 92 = .ok (.aload_n 1, 1) := by decide +kernel
theorem dX10_tell_93 : decode cX10_tell 93 = .ok (.iload 11, 2) := by decide +kernel
theorem dX10_tell_95 : decode cX10_tell 95 = .ok (.iconst 1, 1) := by decide +kernel
theorem dX10_tell_96 : decode cX10_tell 96 = .ok (.iadd, 1) := by decide +kernel
theorem dX10_tell_97 : decode cX10_tell 97 = .ok (.iload 5, 2) := by decide +kernel
theorem dX10_tell_99 : decode cX10_tell 99 = .ok (.iastore, 1) := by decide +kernel
theorem dX10_tell_100 : decode cX10_tell 100 = .ok (.aload_n 1, 1) := by decide +kernel
theorem dX10_tell_101 : decode cX10_tell 101 = .ok (.iload 11, 2) := by decide +kernel
theorem dX10_tell_103 : decode cX10_tell 103 = .ok (.iconst 2, 1) := by decide +kernel
theorem dX10_tell_104 : decode cX10_tell 104 = .ok (.iadd, 1) := by decide +kernel
theorem dX10_tell_105 : decode cX10_tell 105 = .ok (.lload 6, 2) := by decide +kernel
theorem dX10_tell_107 : decode cX10_tell 107 = .ok (.l2i, 1) := by decide +kernel
theorem dX10_tell_108 : decode cX10_tell 108 = .ok (.iastore, 1) := by decide +kernel
theorem dX10_tell_109 : decode cX10_tell 109 = .ok (.aload_n 1, 1) := by decide +kernel
theorem dX10_tell_110 : decode cX10_tell 110 = .ok (.iload 11, 2) := by decide +kernel
theorem dX10_tell_112 : decode cX10_tell 112 = .ok (.iconst 3, 1) := by decide +kernel
theorem dX10_tell_113 : decode cX10_tell 113 = .ok (.iadd, 1) := by decide +kernel
theorem dX10_tell_114 : decode cX10_tell 114 = .ok (.lload 8, 2) := by decide +kernel
theorem dX10_tell_116 : decode cX10_tell 116 = .ok (.l2i, 1) := by decide +kernel
theorem dX10_tell_117 : decode cX10_tell 117 = .ok (.iastore, 1) := by decide +kernel
theorem dX10_tell_118 : decode cX10_tell 118 = .ok (.aload_n 2, 1) := by decide +kernel
theorem dX10_tell_119 : decode cX10_tell 119 = .ok (.iload_n 3, 1) := by decide +kernel
theorem dX10_tell_120 : decode cX10_tell 120 = .ok (.dup2, 1) := by decide +kernel
theorem dX10_tell_121 : decode cX10_tell 121 = .ok (.iaload, 1) := by decide +kernel
theorem dX10_tell_122 : decode cX10_tell 122 = .ok (.iconst 1, 1) := by decide +kernel
theorem dX10_tell_123 : decode cX10_tell 123 = .ok (.iadd, 1) := by decide +kernel
theorem dX10_tell_124 : decode cX10_tell 124 = .ok (.iastore, 1) := by decide +kernel
theorem dX10_tell_125 : decode cX10_tell 125 = .ok (.aload_n 0, 1) := by decide +kernel
theorem dX10_tell_126 : decode cX10_tell 126 = .ok (.iconst 0, 1) := by decide +kernel
theorem dX10_tell_127 : decode cX10_tell 127 = .ok (.putfield 116, 3) := by decide +kernel
theorem dX10_tell_130 : decode cX10_tell 130 = .ok (.iconst 1, 1) := by decide +kernel
theorem dX10_tell_131 : decode cX10_tell 131 = .ok (.ireturn, 1) := by decide +kernel
theorem dX10_works_0 : decode cX10_works 0 = .ok (.aload_n 0, 1) := by decide +kernel
theorem dX10_works_1 : decode cX10_works 1 = .ok (.aload_n 0, 1) := by decide +kernel
theorem dX10_works_2 : decode cX10_works 2 = .ok (.getfield 46, 3) := by decide +kernel
theorem dX10_works_5 : decode cX10_works 5 = .ok (.aload_n 0, 1) := by decide +kernel
theorem dX10_works_6 : decode cX10_works 6 = .ok (.getfield 43, 3) := by decide +kernel
theorem dX10_works_9 : decode cX10_works 9 = .ok (.iload_n 1, 1) := by decide +kernel
theorem dX10_works_10 : decode cX10_works 10 = .ok (.iload_n 2, 1) := by decide +kernel
theorem dX10_works_11 : decode cX10_works 11 = .ok (.iload_n 3, 1) := by decide +kernel
theorem dX10_works_12 : decode cX10_works 12 = .ok (.lload 4, 2) := by decide +kernel
theorem dX10_works_14 : decode cX10_works 14 = .ok (.lload 6, 2) := by decide +kernel
theorem dX10_works_16 : decode cX10_works 16 = .ok (.invokevirtual 292, 3) := by decide +kernel
theorem dX10_works_19 : decode cX10_works 19 = .ok (.ireturn, 1) := by decide +kernel
theorem dX10_event_0 : decode cX10_event 0 = .ok (.aload_n 0, 1) := by decide +kernel
theorem dX10_event_1 : decode cX10_event 1 = .ok (.aload_n 0, 1) := by decide +kernel
theorem dX10_event_2 : decode cX10_event 2 = .ok (.getfield 52, 3) := by decide +kernel
theorem dX10_event_5 : decode cX10_event 5 = .ok (.aload_n 0, 1) := by decide +kernel
theorem dX10_event_6 : decode cX10_event 6 = .ok (.getfield 49, 3) := by decide +kernel
theorem dX10_event_9 : decode cX10_event 9 = .ok (.iload_n 1, 1) := by decide +kernel
theorem dX10_event_10 : decode cX10_event 10 = .ok (.iload_n 2, 1) := by decide +kernel
theorem dX10_event_11 : decode cX10_event 11 = .ok (.iload_n 3, 1) := by decide +kernel
theorem dX10_event_12 : decode cX10_event 12 = .ok (.lload 4, 2) := by decide +kernel
theorem dX10_event_14 : decode cX10_event 14 = .ok (.lload 6, 2) := by decide +kernel
theorem dX10_event_16 : decode cX10_event 16 = .ok (.invokevirtual 292, 3) := by decide +kernel
theorem dX10_event_19 : decode cX10_event 19 = .ok (.ireturn, 1) := by decide +kernel
theorem dX10_together_0 : decode cX10_together 0 = .ok (.aload_n 0, 1) := by decide +kernel
theorem dX10_together_1 : decode cX10_together 1 = .ok (.bipush 82, 2) := by decide +kernel
theorem dX10_together_3 : decode cX10_together 3 = .ok (.lconst 0, 1) := by decide +kernel
theorem dX10_together_4 : decode cX10_together 4 = .ok (.invokevirtual 82, 3) := by decide +kernel
theorem dX10_together_7 : decode cX10_together 7 = .ok (.iload_n 2, 1) := by decide +kernel
theorem dX10_together_8 : decode cX10_together 8 = .ok (.istore_n 3, 1) := by decide +kernel
theorem dX10_together_9 : decode cX10_together 9 = .ok (.iload_n 3, 1) := by decide +kernel
theorem dX10_together_10 : decode cX10_together 10 = .ok (.aload_n 0, 1) := by decide +kernel
theorem dX10_together_11 : decode cX10_together 11 = .ok (.getfield 75, 3) := by decide +kernel
theorem dX10_together_14 : decode cX10_together 14 = .ok (.if_icmp .ge 21, 3) := by decide +kernel
theorem dX10_together_17 : decode cX10_together 17 = .ok (.aload_n 0, 1) := by decide +kernel
theorem dX10_together_18 : decode cX10_together 18 = .ok (.bipush 82, 2) := by decide +kernel
theorem dX10_together_20 : decode cX10_together 20 = .ok (.bipush 6, 2) := by decide +kernel
theorem dX10_together_22 : decode cX10_together 22 = .ok (.iload_n 1, 1) := by decide +kernel
theorem dX10_together_23 : decode cX10_together 23 = .ok (.imul, 1) := by decide +kernel
theorem dX10_together_24 : decode cX10_together 24 = .ok (.iload_n 3, 1) := by decide +kernel
theorem dX10_together_25 : decode cX10_together 25 = .ok (.iadd, 1) := by decide +kernel
theorem dX10_together_26 : decode cX10_together 26 = .ok (.invokevirtual 256, 3) := by decide +kernel
theorem dX10_together_29 : decode cX10_together 29 = .ok (.iinc 3 1, 3) := by decide +kernel
theorem dX10_together_32 : decode cX10_together 32 = .ok (.goto (-23), 3) := by decide +kernel
theorem dX10_together_35 : decode cX10_together 35 = .ok (.return_, 1) := by decide +kernel
theorem dX10_sums_0 : decode cX10_sums 0 = .ok (.aload_n 0, 1) := by decide +kernel
theorem dX10_sums_1 : decode cX10_sums 1 = .ok (.iconst 0, 1) := by decide +kernel
theorem dX10_sums_2 : decode cX10_sums 2 = .ok (.putfield 91, 3) := by decide +kernel
theorem dX10_sums_5 : decode cX10_sums 5 = .ok (.aload_n 0, 1) := by decide +kernel
theorem dX10_sums_6 : decode cX10_sums 6 = .ok (.iload_n 1, 1) := by decide +kernel
theorem dX10_sums_7 : decode cX10_sums 7 = .ok (.invokevirtual 278, 3) := by decide +kernel
theorem dX10_sums_10 : decode cX10_sums 10 = .ok (.ifCond .ne 5, 3) := by decide +kernel
theorem dX10_sums_13 : decode cX10_sums 13 = .ok (.iconst 0, 1) := by decide +kernel
theorem dX10_sums_14 : decode cX10_sums 14 = .ok (.ireturn, 1) := by decide +kernel
theorem dX10_sums_15 : decode cX10_sums 15 = .ok (.aload_n 0, 1) := by decide +kernel
theorem dX10_sums_16 : decode cX10_sums 16 = .ok (.iload_n 1, 1) := by decide +kernel
theorem dX10_sums_17 : decode cX10_sums 17 = .ok (.iconst 0, 1) := by decide +kernel
theorem dX10_sums_18 : decode cX10_sums 18 = .ok (.invokevirtual 296, 3) := by decide +kernel
theorem dX10_sums_21 : decode cX10_sums 21 = .ok (.aload_n 0, 1) := by decide +kernel
theorem dX10_sums_22 : decode cX10_sums 22 = .ok (.bipush 82, 2) := by decide +kernel
theorem dX10_sums_24 : decode cX10_sums 24 = .ok (.bipush 73, 2) := by decide +kernel
theorem dX10_sums_26 : decode cX10_sums 26 = .ok (.invokevirtual 239, 3) := by decide +kernel
theorem dX10_sums_29 : decode cX10_sums 29 = .ok (.aload_n 0, 1) := by decide +kernel
theorem dX10_sums_30 : decode cX10_sums 30 = .ok (.bipush 82, 2) := by decide +kernel
theorem dX10_sums_32 : decode cX10_sums 32 = .ok (.bipush 73, 2) := by decide +kernel
theorem dX10_sums_34 : decode cX10_sums 34 = .ok (.invokevirtual 242, 3) := by decide +kernel
theorem dX10_sums_37 : decode cX10_sums 37 = .ok (.ifCond .ne 7, 3) := by decide +kernel
theorem dX10_sums_40 : decode cX10_sums 40 = .ok (.iconst 1, 1) := by decide +kernel
theorem dX10_sums_41 : decode cX10_sums 41 = .ok (.goto 4, 3) := by decide +kernel
theorem dX10_sums_44 : decode cX10_sums 44 = .ok (.iconst 0, 1) := by decide +kernel
theorem dX10_sums_45 : decode cX10_sums 45 = .ok (.ireturn, 1) := by decide +kernel
theorem dX10_target_0 : decode cX10_target 0 = .ok (.aload_n 0, 1) := by decide +kernel
theorem dX10_target_1 : decode cX10_target 1 = .ok (.iconst 0, 1) := by decide +kernel
theorem dX10_target_2 : decode cX10_target 2 = .ok (.putfield 91, 3) := by decide +kernel
theorem dX10_target_5 : decode cX10_target 5 = .ok (.aload_n 0, 1) := by decide +kernel
theorem dX10_target_6 : decode cX10_target 6 = .ok (.iload_n 1, 1) := by decide +kernel
theorem dX10_target_7 : decode cX10_target 7 = .ok (.invokevirtual 108, 3) := by decide +kernel
theorem dX10_target_10 : decode cX10_target 10 = .ok (.ifCond .eq 12, 3) := by decide +kernel
theorem dX10_target_13 : decode cX10_target 13 = .ok (.lload_n 2, 1) := by decide +kernel
theorem dX10_target_14 : decode cX10_target 14 = .ok (.lload 4, 2) := by decide +kernel
theorem dX10_target_16 : decode cX10_target 16 = .ok (.invokestatic 286, 3) := by decide +kernel
theorem dX10_target_19 : decode cX10_target 19 = .ok (.ifCond .ne 5, 3) := by decide +kernel
theorem dX10_target_22 : decode cX10_target 22 = .ok (.iconst (-1), 1) := by decide +kernel
theorem dX10_target_23 : decode cX10_target 23 = .ok (.ireturn, 1) := by decide +kernel
theorem dX10_target_24 : decode cX10_target 24 = .ok (.iconst 0, 1) := by decide +kernel
theorem dX10_target_25 : decode cX10_target 25 = .ok (.istore 6, 2) := by decide +kernel
theorem dX10_target_27 : decode cX10_target 27 = .ok (.iload 6, 2) := by decide +kernel
theorem dX10_target_29 : decode cX10_target 29 = .ok (.bipush 12, 2) := by decide +kernel
theorem dX10_target_31 : decode cX10_target 31 = .ok (.if_icmp .ge 73, 3) := by decide +kernel
theorem dX10_target_34 : decode cX10_target 34 = .ok (.aload_n 0, 1) := by decide +kernel
theorem dX10_target_35 : decode cX10_target 35 = .ok (.iload 6, 2) := by decide +kernel
theorem dX10_target_37 : decode cX10_target 37 = .ok (.invokevirtual 278, 3) := by decide +kernel
theorem dX10_target_40 : decode cX10_target 40 = .ok (.ifCond .ne 5, 3) := by decide +kernel
theorem dX10_target_43 : decode cX10_target 43 = .ok (.iconst (-1), 1) := by decide +kernel
theorem dX10_target_44 : decode cX10_target 44 = .ok (.ireturn, 1) := by decide +kernel
theorem dX10_target_45 : decode cX10_target 45 = .ok (.aload_n 0, 1) := by decide +kernel
theorem dX10_target_46 : decode cX10_target 46 = .ok (.iload 6, 2) := by decide +kernel
theorem dX10_target_48 : decode cX10_target 48 = .ok (.iload_n 1, 1) := by decide +kernel
theorem dX10_target_49 : decode cX10_target 49 = .ok (.invokevirtual 296, 3) := by decide +kernel
theorem dX10_target_52 : decode cX10_target 52 = .ok (.aload_n 0, 1) := by decide +kernel
theorem dX10_target_53 : decode cX10_target 53 = .ok (.bipush 82, 2) := by decide +kernel
theorem dX10_target_55 : decode cX10_target 55 = .ok (.bipush 73, 2) := by decide +kernel
theorem dX10_target_57 : decode cX10_target 57 = .ok (.invokevirtual 239, 3) := by decide +kernel
theorem dX10_target_60 : decode cX10_target 60 = .ok (.aload_n 0, 1) := by decide +kernel
theorem dX10_target_61 : decode cX10_target 61 = .ok (.bipush 82, 2) := by decide +kernel
theorem dX10_target_63 : decode cX10_target 63 = .ok (.lload 4, 2) := by decide +kernel
theorem dX10_target_65 : decode cX10_target 65 = .ok (.invokevirtual 88, 3) := by decide +kernel
theorem dX10_target_68 : decode cX10_target 68 = .ok (.lload_n 2, 1) := by decide +kernel
theorem dX10_target_69 : decode cX10_target 69 = .ok (.lconst 0, 1) := by decide +kernel
theorem dX10_target_70 : decode cX10_target 70 = .ok (.lcmp, 1) := by decide +kernel
theorem dX10_target_71 : decode cX10_target 71 = .ok (.ifCond .ne 6, 3) := by decide +kernel
theorem dX10_target_74 : decode cX10_target 74 = .ok (.iload 6, 2) := by decide +kernel
theorem dX10_target_76 : decode cX10_target 76 = .ok (.ireturn, 1) := by decide +kernel
theorem dX10_target_77 : decode cX10_target 77 = .ok (.aload_n 0, 1) := by decide +kernel
theorem dX10_target_78 : decode cX10_target 78 = .ok (.bipush 73, 2) := by decide +kernel
theorem dX10_target_80 : decode cX10_target 80 = .ok (.lload_n 2, 1) := by decide +kernel
theorem dX10_target_81 : decode cX10_target 81 = .ok (.invokevirtual 88, 3) := by decide +kernel
theorem dX10_target_84 : decode cX10_target 84 = .ok (.aload_n 0, 1) := by decide +kernel
theorem dX10_target_85 : decode cX10_target 85 = .ok (.bipush 82, 2) := by decide +kernel
theorem dX10_target_87 : decode cX10_target 87 = .ok (.bipush 73, 2) := by decide +kernel
theorem dX10_target_89 : decode cX10_target 89 = .ok (.invokevirtual 242, 3) := by decide +kernel
theorem dX10_target_92 : decode cX10_target 92 = .ok (.ifCond .lt 6, 3) := by decide +kernel
theorem dX10_target_95 : decode cX10_target 95 = .ok (.iload 6, 2) := by decide +kernel
theorem dX10_target_97 : decode cX10_target 97 = .ok (.ireturn, 1) := by decide +kernel
theorem dX10_target_98 : decode cX10_target 98 = .ok (.iinc 6 1, 3) := by decide +kernel
theorem dX10_target_101 : decode cX10_target 101 = .ok (.goto (-74), 3) := by decide +kernel
theorem dX10_target_104 : decode cX10_target 104 = .ok (.iconst (-1), 1) := by decide +kernel
theorem dX10_target_105 : decode cX10_target 105 = .ok (.ireturn, 1) := by decide +kernel
theorem dX10_part2_0 : decode cX10_part2 0 = .ok (.aload_n 0, 1) := by decide +kernel
theorem dX10_part2_1 : decode cX10_part2 1 = .ok (.iconst 0, 1) := by decide +kernel
theorem dX10_part2_2 : decode cX10_part2 2 = .ok (.putfield 91, 3) := by decide +kernel
theorem dX10_part2_5 : decode cX10_part2 5 = .ok (.aload_n 0, 1) := by decide +kernel
theorem dX10_part2_6 : decode cX10_part2 6 = .ok (.iload_n 1, 1) := by decide +kernel
theorem dX10_part2_7 : decode cX10_part2 7 = .ok (.invokevirtual 108, 3) := by decide +kernel
theorem dX10_part2_10 : decode cX10_part2 10 = .ok (.ifCond .eq 16, 3) := by decide +kernel
theorem dX10_part2_13 : decode cX10_part2 13 = .ok (.lload_n 2, 1) := by decide +kernel
theorem dX10_part2_14 : decode cX10_part2 14 = .ok (.ldc2_w 299, 3) := by decide +kernel
theorem dX10_part2_17 : decode cX10_part2 17 = .ok (.ldc2_w 301, 3) := by decide +kernel
theorem dX10_part2_20 : decode cX10_part2 20 = .ok (.invokestatic 94, 3) := by decide +kernel
theorem dX10_part2_23 : decode cX10_part2 23 = .ok (.ifCond .ne 5, 3) := by decide +kernel
theorem dX10_part2_26 : decode cX10_part2 26 = .ok (.iconst 0, 1) := by decide +kernel
theorem dX10_part2_27 : decode cX10_part2 27 = .ok (.ireturn, 1) := by decide +kernel
theorem dX10_part2_28 : decode cX10_part2 28 = .ok (.aload_n 0, 1) := by decide +kernel
theorem dX10_part2_29 : decode cX10_part2 29 = .ok (.getfield 55, 3) := by decide +kernel
theorem dX10_part2_32 : decode cX10_part2 32 = .ok (.iload_n 1, 1) := by decide +kernel
theorem dX10_part2_33 : decode cX10_part2 33 = .ok (.lload_n 2, 1) := by decide +kernel
theorem dX10_part2_34 : decode cX10_part2 34 = .ok (.lastore, 1) := by decide +kernel
theorem dX10_part2_35 : decode cX10_part2 35 = .ok (.iconst 1, 1) := by decide +kernel
theorem dX10_part2_36 : decode cX10_part2 36 = .ok (.ireturn, 1) := by decide +kernel
theorem dX10_worth_0 : decode cX10_worth 0 = .ok (.aload_n 0, 1) := by decide +kernel
theorem dX10_worth_1 : decode cX10_worth 1 = .ok (.iconst 0, 1) := by decide +kernel
theorem dX10_worth_2 : decode cX10_worth 2 = .ok (.putfield 91, 3) := by decide +kernel
theorem dX10_worth_5 : decode cX10_worth 5 = .ok (.aload_n 0, 1) := by decide +kernel
theorem dX10_worth_6 : decode cX10_worth 6 = .ok (.iload_n 1, 1) := by decide +kernel
theorem dX10_worth_7 : decode cX10_worth 7 = .ok (.invokevirtual 278, 3) := by decide +kernel
theorem dX10_worth_10 : decode cX10_worth 10 = .ok (.ifCond .ne 7, 3) := by decide +kernel
theorem dX10_worth_13 : decode cX10_worth 13 = .ok (.ldc2_w 215, 3) := by decide +kernel
theorem dX10_worth_16 : decode cX10_worth 16 = .ok (.lreturn, 1) := by decide +kernel
theorem dX10_worth_17 : decode cX10_worth 17 = .ok (.aload_n 0, 1) := by decide +kernel
theorem dX10_worth_18 : decode cX10_worth 18 = .ok (.bipush 82, 2) := by decide +kernel
theorem dX10_worth_20 : decode cX10_worth 20 = .ok (.lconst 0, 1) := by decide +kernel
theorem dX10_worth_21 : decode cX10_worth 21 = .ok (.invokevirtual 82, 3) := by decide +kernel
theorem dX10_worth_24 : decode cX10_worth 24 = .ok (.aload_n 0, 1) := by decide +kernel
theorem dX10_worth_25 : decode cX10_worth 25 = .ok (.bipush 81, 2) := by decide +kernel
theorem dX10_worth_27 : decode cX10_worth 27 = .ok (.lconst 0, 1) := by decide +kernel
theorem dX10_worth_28 : decode cX10_worth 28 = .ok (.invokevirtual 82, 3) := by decide +kernel
theorem dX10_worth_31 : decode cX10_worth 31 = .ok (.iconst 0, 1) := by decide +kernel
theorem dX10_worth_32 : decode cX10_worth 32 = .ok (.istore_n 3, 1) := by decide +kernel
theorem dX10_worth_33 : decode cX10_worth 33 = .ok (.iload_n 3, 1) := by decide +kernel
theorem dX10_worth_34 : decode cX10_worth 34 = .ok (.aload_n 0, 1) := by decide +kernel
theorem dX10_worth_35 : decode cX10_worth 35 = .ok (.getfield 75, 3) := by decide +kernel
theorem dX10_worth_38 : decode cX10_worth 38 = .ok (.if_icmp .ge 83, 3) := by decide +kernel
theorem dX10_worth_41 : decode cX10_worth 41 = .ok (.aload_n 0, 1) := by decide +kernel
theorem dX10_worth_42 : decode cX10_worth 42 = .ok (.bipush 6, 2) := by decide +kernel
theorem dX10_worth_44 : decode cX10_worth 44 = .ok (.iload_n 1, 1) := by decide +kernel
theorem dX10_worth_45 : decode cX10_worth 45 = .ok (.imul, 1) := by decide +kernel
theorem dX10_worth_46 : decode cX10_worth 46 = .ok (.iload_n 3, 1) := by decide +kernel
theorem dX10_worth_47 : decode cX10_worth 47 = .ok (.iadd, 1) := by decide +kernel
theorem dX10_worth_48 : decode cX10_worth 48 = .ok (.bipush 74, 2) := by decide +kernel
theorem dX10_worth_50 : decode cX10_worth 50 = .ok (.invokevirtual 232, 3) := by decide +kernel
theorem dX10_worth_53 : decode cX10_worth 53 = .ok (.aload_n 0, 1) := by decide +kernel
theorem dX10_worth_54 : decode cX10_worth 54 = .ok (.getfield 55, 3) := by decide +kernel
theorem dX10_worth_57 : decode cX10_worth 57 = .ok (.iload_n 3, 1) := by decide +kernel
theorem dX10_worth_58 : decode cX10_worth 58 = .ok (.laload, 1) := by decide +kernel
theorem dX10_worth_59 : decode cX10_worth 59 = .ok (.lstore 4, 2) := by decide +kernel
theorem dX10_worth_61 : decode cX10_worth 61 = .ok (.lload 4, 2) := by decide +kernel
theorem dX10_worth_63 : decode cX10_worth 63 = .ok (.lconst 0, 1) := by decide +kernel
theorem dX10_worth_64 : decode cX10_worth 64 = .ok (.lcmp, 1) := by decide +kernel
theorem dX10_worth_65 : decode cX10_worth 65 = .ok (.ifCond .eq 50, 3) := by decide +kernel
theorem dX10_worth_68 : decode cX10_worth 68 = .ok (.aload_n 0, 1) := by decide +kernel
theorem dX10_worth_69 : decode cX10_worth 69 = .ok (.bipush 74, 2) := by decide +kernel
theorem dX10_worth_71 : decode cX10_worth 71 = .ok (.lload 4, 2) := by decide +kernel
theorem dX10_worth_73 : decode cX10_worth 73 = .ok (.lconst 0, 1) := by decide +kernel
theorem dX10_worth_74 : decode cX10_worth 74 = .ok (.lcmp, 1) := by decide +kernel
theorem dX10_worth_75 : decode cX10_worth 75 = .ok (.ifCond .ge 9, 3) := by decide +kernel
theorem dX10_worth_78 : decode cX10_worth 78 = .ok (.lload 4, 2) := by decide +kernel
theorem dX10_worth_80 : decode cX10_worth 80 = .ok (.lneg, 1) := by decide +kernel
theorem dX10_worth_81 : decode cX10_worth 81 = .ok (.goto 5, 3) := by decide +kernel
theorem dX10_worth_84 : decode cX10_worth 84 = .ok (.lload 4, 2) := by decide +kernel
theorem dX10_worth_86 : decode cX10_worth 86 = .ok (.invokevirtual 88, 3) := by decide +kernel
theorem dX10_worth_89 : decode cX10_worth 89 = .ok (.aload_n 0, 1) := by decide +kernel
theorem dX10_worth_90 : decode cX10_worth 90 = .ok (.bipush 74, 2) := by decide +kernel
theorem dX10_worth_92 : decode cX10_worth 92 = .ok (.invokevirtual 229, 3) := by decide +kernel
theorem dX10_worth_95 : decode cX10_worth 95 = .ok (.aload_n 0, 1) := by decide +kernel
theorem dX10_worth_96 : decode cX10_worth 96 = .ok (.lload 4, 2) := by decide +kernel
theorem dX10_worth_98 : decode cX10_worth 98 = .ok (.lconst 0, 1) := by decide +kernel
theorem dX10_worth_99 : decode cX10_worth 99 = .ok (.lcmp, 1) := by decide +kernel
theorem dX10_worth_100 : decode cX10_worth 100 = .ok (.ifCond .ge 8, 3) := by decide +kernel
theorem dX10_worth_103 : decode cX10_worth 103 = .ok (.bipush 81, 2) := by decide +kernel
theorem dX10_worth_105 : decode cX10_worth 105 = .ok (.goto 5, 3) := by decide +kernel
theorem dX10_worth_108 : decode cX10_worth 108 = .ok (.bipush 82, 2) := by decide +kernel
theorem dX10_worth_110 : decode cX10_worth 110 = .ok (.bipush 74, 2) := by decide +kernel
theorem dX10_worth_112 : decode cX10_worth 112 = .ok (.invokevirtual 256, 3) := by decide +kernel
theorem dX10_worth_115 : decode cX10_worth 115 = .ok (.iinc 3 1, 3) := by decide +kernel
theorem dX10_worth_118 : decode cX10_worth 118 = .ok (.goto (-85), 3) := by decide +kernel
theorem dX10_worth_121 : decode cX10_worth 121 = .ok (.aload_n 0, 1) := by decide +kernel
theorem dX10_worth_122 : decode cX10_worth 122 = .ok (.bipush 81, 2) := by decide +kernel
theorem dX10_worth_124 : decode cX10_worth 124 = .ok (.bipush 82, 2) := by decide +kernel
theorem dX10_worth_126 : decode cX10_worth 126 = .ok (.invokevirtual 236, 3) := by decide +kernel
theorem dX10_worth_129 : decode cX10_worth 129 = .ok (.aload_n 0, 1) := by decide +kernel
theorem dX10_worth_130 : decode cX10_worth 130 = .ok (.bipush 82, 2) := by decide +kernel
theorem dX10_worth_132 : decode cX10_worth 132 = .ok (.bipush 81, 2) := by decide +kernel
theorem dX10_worth_134 : decode cX10_worth 134 = .ok (.invokevirtual 242, 3) := by decide +kernel
theorem dX10_worth_137 : decode cX10_worth 137 = .ok (.istore_n 3, 1) := by decide +kernel
theorem dX10_worth_138 : decode cX10_worth 138 = .ok (.iload_n 2, 1) := by decide +kernel
theorem dX10_worth_139 : decode cX10_worth 139 = .ok (.iconst (-1), 1) := by decide +kernel
theorem dX10_worth_140 : decode cX10_worth 140 = .ok (.if_icmp .ne 6, 3) := by decide +kernel
theorem dX10_worth_143 : decode cX10_worth 143 = .ok (.iload_n 3, 1) := by decide +kernel
theorem dX10_worth_144 : decode cX10_worth 144 = .ok (.i2l, 1) := by decide +kernel
theorem dX10_worth_145 : decode cX10_worth 145 = .ok (.lreturn, 1) := by decide +kernel
theorem dX10_worth_146 : decode cX10_worth 146 = .ok (.iload_n 3, 1) := by decide +kernel
theorem dX10_worth_147 : decode cX10_worth 147 = .ok (.ifCond .ge 8, 3) := by decide +kernel
theorem dX10_worth_150 : decode cX10_worth 150 = .ok (.bipush 81, 2) := by decide +kernel
theorem dX10_worth_152 : decode cX10_worth 152 = .ok (.goto 5, 3) := by decide +kernel
theorem dX10_worth_155 : decode cX10_worth 155 = .ok (.bipush 82, 2) := by decide +kernel
theorem dX10_worth_157 : decode cX10_worth 157 = .ok (.istore 4, 2) := by decide +kernel
theorem dX10_worth_159 : decode cX10_worth 159 = .ok (.aload_n 0, 1) := by decide +kernel
theorem dX10_worth_160 : decode cX10_worth 160 = .ok (.iload 4, 2) := by decide +kernel
theorem dX10_worth_162 : decode cX10_worth 162 = .ok (.iload_n 3, 1) := by decide +kernel
theorem dX10_worth_163 : decode cX10_worth 163 = .ok (.ifCond .ge 8, 3) := by decide +kernel
theorem dX10_worth_166 : decode cX10_worth 166 = .ok (.bipush 82, 2) := by decide +kernel
theorem dX10_worth_168 : decode cX10_worth 168 = .ok (.goto 5, 3) := by decide +kernel
theorem dX10_worth_171 : decode cX10_worth 171 = .ok (.bipush 81, 2) := by decide +kernel
theorem dX10_worth_173 : decode cX10_worth 173 = .ok (.invokevirtual 253, 3) := by decide +kernel
theorem dX10_worth_176 : decode cX10_worth 176 = .ok (.aload_n 0, 1) := by decide +kernel
theorem dX10_worth_177 : decode cX10_worth 177 = .ok (.iload 4, 2) := by decide +kernel
theorem dX10_worth_179 : decode cX10_worth 179 = .ok (.iload_n 2, 1) := by decide +kernel
theorem dX10_worth_180 : decode cX10_worth 180 = .ok (.invokevirtual 281, 3) := by decide +kernel
theorem dX10_worth_183 : decode cX10_worth 183 = .ok (.lreturn, 1) := by decide +kernel
theorem dX10_first_0 : decode cX10_first 0 = .ok (.aload_n 0, 1) := by decide +kernel
theorem dX10_first_1 : decode cX10_first 1 = .ok (.iload_n 1, 1) := by decide +kernel
theorem dX10_first_2 : decode cX10_first 2 = .ok (.iconst 0, 1) := by decide +kernel
theorem dX10_first_3 : decode cX10_first 3 = .ok (.invokevirtual 184, 3) := by decide +kernel
theorem dX10_first_6 : decode cX10_first 6 = .ok (.istore_n 2, 1) := by decide +kernel
theorem dX10_first_7 : decode cX10_first 7 = .ok (.iconst 0, 1) := by decide +kernel
theorem dX10_first_8 : decode cX10_first 8 = .ok (.istore_n 3, 1) := by decide +kernel
theorem dX10_first_9 : decode cX10_first 9 = .ok (.iload_n 3, 1) := by decide +kernel
theorem dX10_first_10 : decode cX10_first 10 = .ok (.bipush 10, 2) := by decide +kernel
theorem dX10_first_12 : decode cX10_first 12 = .ok (.if_icmp .ge 40, 3) := by decide +kernel
theorem dX10_first_15 : decode cX10_first 15 = .ok (.iload_n 2, 1) := by decide +kernel
theorem dX10_first_16 : decode cX10_first 16 = .ok (.iconst (-1), 1) := by decide +kernel
theorem dX10_first_17 : decode cX10_first 17 = .ok (.if_icmp .ne 35, 3) := by decide +kernel
theorem dX10_first_20 : decode cX10_first 20 = .ok (.aload_n 0, 1) := by decide +kernel
theorem dX10_first_21 : decode cX10_first 21 = .ok (.getfield 13, 3) := by decide +kernel
theorem dX10_first_24 : decode cX10_first 24 = .ok (.iload_n 3, 1) := by decide +kernel
theorem dX10_first_25 : decode cX10_first 25 = .ok (.iaload, 1) := by decide +kernel
theorem dX10_first_26 : decode cX10_first 26 = .ok (.aload_n 0, 1) := by decide +kernel
theorem dX10_first_27 : decode cX10_first 27 = .ok (.getfield 13, 3) := by decide +kernel
theorem dX10_first_30 : decode cX10_first 30 = .ok (.iload_n 1, 1) := by decide +kernel
theorem dX10_first_31 : decode cX10_first 31 = .ok (.iaload, 1) := by decide +kernel
theorem dX10_first_32 : decode cX10_first 32 = .ok (.if_icmp .ne 12, 3) := by decide +kernel
theorem dX10_first_35 : decode cX10_first 35 = .ok (.aload_n 0, 1) := by decide +kernel
theorem dX10_first_36 : decode cX10_first 36 = .ok (.iload_n 3, 1) := by decide +kernel
theorem dX10_first_37 : decode cX10_first 37 = .ok (.iconst 0, 1) := by decide +kernel
theorem dX10_first_38 : decode cX10_first 38 = .ok (.invokevirtual 184, 3) := by decide +kernel
theorem dX10_first_41 : decode cX10_first 41 = .ok (.goto 4, 3) := by decide +kernel
theorem dX10_first_44 : decode cX10_first 44 = .ok (.iconst (-1), 1) := by decide +kernel
theorem dX10_first_45 : decode cX10_first 45 = .ok (.istore_n 2, 1) := by decide +kernel
theorem dX10_first_46 : decode cX10_first 46 = .ok (.iinc 3 1, 3) := by decide +kernel
theorem dX10_first_49 : decode cX10_first 49 = .ok (.goto (-40), 3) := by decide +kernel
theorem dX10_first_52 : decode cX10_first 52 = .ok (.iload_n 2, 1) := by decide +kernel
theorem dX10_first_53 : decode cX10_first 53 = .ok (.iconst (-1), 1) := by decide +kernel
theorem dX10_first_54 : decode cX10_first 54 = .ok (.if_icmp .ne 7, 3) := by decide +kernel
theorem dX10_first_57 : decode cX10_first 57 = .ok (.iconst 0, 1) := by decide +kernel
theorem dX10_first_58 : decode cX10_first 58 = .ok (.goto 4, 3) := by decide +kernel
theorem dX10_first_61 : decode cX10_first 61 = .ok (.iload_n 2, 1) := by decide +kernel
theorem dX10_first_62 : decode cX10_first 62 = .ok (.ireturn, 1) := by decide +kernel
theorem dX10_drawn_0 : decode cX10_drawn 0 = .ok (.aload_n 0, 1) := by decide +kernel
theorem dX10_drawn_1 : decode cX10_drawn 1 = .ok (.iconst 0, 1) := by decide +kernel
theorem dX10_drawn_2 : decode cX10_drawn 2 = .ok (.putfield 91, 3) := by decide +kernel
theorem dX10_drawn_5 : decode cX10_drawn 5 = .ok (.aload_n 0, 1) := by decide +kernel
theorem dX10_drawn_6 : decode cX10_drawn 6 = .ok (.iload_n 3, 1) := by decide +kernel
theorem dX10_drawn_7 : decode cX10_drawn 7 = .ok (.iload 4, 2) := by decide +kernel
theorem dX10_drawn_9 : decode cX10_drawn 9 = .ok (.invokevirtual 102, 3) := by decide +kernel
theorem dX10_drawn_12 : decode cX10_drawn 12 = .ok (.ifCond .ne 5, 3) := by decide +kernel
theorem dX10_drawn_15 : decode cX10_drawn 15 = .ok (.iconst (-1), 1) := by decide +kernel
theorem dX10_drawn_16 : decode cX10_drawn 16 = .ok (.ireturn, 1) := by decide +kernel
theorem dX10_drawn_17 : decode cX10_drawn 17 = .ok (.aload_n 0, 1) := by decide +kernel
theorem dX10_drawn_18 : decode cX10_drawn 18 = .ok (.invokevirtual 194, 3) := by decide +kernel
theorem dX10_drawn_21 : decode cX10_drawn 21 = .ok (.aload_n 0, 1) := by decide +kernel
theorem dX10_drawn_22 : decode cX10_drawn 22 = .ok (.iload_n 3, 1) := by decide +kernel
theorem dX10_drawn_23 : decode cX10_drawn 23 = .ok (.invokevirtual 303, 3) := by decide +kernel
theorem dX10_drawn_26 : decode cX10_drawn 26 = .ok (.istore 5, 2) := by decide +kernel
theorem dX10_drawn_28 : decode cX10_drawn 28 = .ok (.iconst 0, 1) := by decide +kernel
theorem dX10_drawn_29 : decode cX10_drawn 29 = .ok (.istore 6, 2) := by decide +kernel
theorem dX10_drawn_31 : decode cX10_drawn 31 = .ok (.iload 6, 2) := by decide +kernel
theorem dX10_drawn_33 : decode cX10_drawn 33 = .ok (.iload 4, 2) := by decide +kernel
theorem dX10_drawn_35 : decode cX10_drawn 35 = .ok (.if_icmp .ge 126, 3) := by decide +kernel
theorem dX10_drawn_38 : decode cX10_drawn 38 = .ok (.lload_n 1, 1) := by decide +kernel
theorem dX10_drawn_39 : decode cX10_drawn 39 = .ok (.ldc2_w 306, 3) := by decide +kernel
theorem dX10_drawn_42 : decode cX10_drawn 42 = .ok (.iload_n 3, 1) := by decide +kernel
theorem dX10_drawn_43 : decode cX10_drawn 43 = .ok (.i2l, 1) := by decide +kernel
theorem dX10_drawn_44 : decode cX10_drawn 44 = .ok (.lmul, 1) := by decide +kernel
theorem dX10_drawn_45 : decode cX10_drawn 45 = .ok (.ladd, 1) := by decide +kernel
theorem dX10_drawn_46 : decode cX10_drawn 46 = .ok (.ldc2_w 308, 3) := by decide +kernel
theorem dX10_drawn_49 : decode cX10_drawn 49 = .ok (.iload 6, 2) := by decide +kernel
theorem dX10_drawn_51 : decode cX10_drawn 51 = .ok (.i2l, 1) := by decide +kernel
theorem dX10_drawn_52 : decode cX10_drawn 52 = .ok (.lmul, 1) := by decide +kernel
theorem dX10_drawn_53 : decode cX10_drawn 53 = .ok (.ladd, 1) := by decide +kernel
theorem dX10_drawn_54 : decode cX10_drawn 54 = .ok (.lstore 7, 2) := by decide +kernel
theorem dX10_drawn_56 : decode cX10_drawn 56 = .ok (.lload 7, 2) := by decide +kernel
theorem dX10_drawn_58 : decode cX10_drawn 58 = .ok (.ldc2_w 310, 3) := by decide +kernel
theorem dX10_drawn_61 : decode cX10_drawn 61 = .ok (.lmul, 1) := by decide +kernel
theorem dX10_drawn_62 : decode cX10_drawn 62 = .ok (.ldc2_w 312, 3) := by decide +kernel
theorem dX10_drawn_65 : decode cX10_drawn 65 = .ok (.ladd, 1) := by decide +kernel
theorem dX10_drawn_66 : decode cX10_drawn 66 = .ok (.lstore 7, 2) := by decide +kernel
theorem dX10_drawn_68 : decode cX10_drawn 68 = .ok (.lload 7, 2) := by decide +kernel
theorem dX10_drawn_70 : decode cX10_drawn 70 = .ok (.ldc2_w 310, 3) := by decide +kernel
theorem dX10_drawn_73 : decode cX10_drawn 73 = .ok (.lmul, 1) := by decide +kernel
theorem dX10_drawn_74 : decode cX10_drawn 74 = .ok (.ldc2_w 312, 3) := by decide +kernel
theorem dX10_drawn_77 : decode cX10_drawn 77 = .ok (.ladd, 1) := by decide +kernel
theorem dX10_drawn_78 : decode cX10_drawn 78 = .ok (.lstore 7, 2) := by decide +kernel
theorem dX10_drawn_80 : decode cX10_drawn 80 = .ok (.lload 7, 2) := by decide +kernel
theorem dX10_drawn_82 : decode cX10_drawn 82 = .ok (.bipush 33, 2) := by decide +kernel
theorem dX10_drawn_84 : decode cX10_drawn 84 = .ok (.lushr, 1) := by decide +kernel
theorem dX10_drawn_85 : decode cX10_drawn 85 = .ok (.lstore 9, 2) := by decide +kernel
theorem dX10_drawn_87 : decode cX10_drawn 87 = .ok (.iconst 0, 1) := by decide +kernel
theorem dX10_drawn_88 : decode cX10_drawn 88 = .ok (.istore 11, 2) := by decide +kernel
theorem dX10_drawn_90 : decode cX10_drawn 90 = .ok (.aload_n 0, 1) := by decide +kernel
theorem dX10_drawn_91 : decode cX10_drawn 91 = .ok (.iload 5, 2) := by decide +kernel
theorem dX10_drawn_93 : decode cX10_drawn 93 = .ok (.iconst 0, 1) := by decide +kernel
theorem dX10_drawn_94 : decode cX10_drawn 94 = .ok (.invokevirtual 205, 3) := by decide +kernel
theorem dX10_drawn_97 : decode cX10_drawn 97 = .ok (.i2l, 1) := by decide +kernel
theorem dX10_drawn_98 : decode cX10_drawn 98 = .ok (.lstore 12, 2) := by decide +kernel
theorem dX10_drawn_100 : decode cX10_drawn 100 = .ok (.iload 11, 2) := by decide +kernel
theorem dX10_drawn_102 : decode cX10_drawn 102 = .ok (.aload_n 0, 1) := by decide +kernel
theorem dX10_drawn_103 : decode cX10_drawn 103 = .ok (.getfield 75, 3) := by decide +kernel
theorem dX10_drawn_106 : decode cX10_drawn 106 = .ok (.iconst 1, 1) := by decide +kernel
theorem dX10_drawn_107 : decode cX10_drawn 107 = .ok (.isub, 1) := by decide +kernel
theorem dX10_drawn_108 : decode cX10_drawn 108 = .ok (.if_icmp .ge 43, 3) := by decide +kernel
theorem dX10_drawn_111 : decode cX10_drawn 111 = .ok (.lload 12, 2) := by decide +kernel
theorem dX10_drawn_113 : decode cX10_drawn 113 = .ok (.ldc2_w 314, 3) := by decide +kernel
theorem dX10_drawn_116 : decode cX10_drawn 116 = .ok (.lmul, 1) := by decide +kernel
theorem dX10_drawn_117 : decode cX10_drawn 117 = .ok (.lload 9, 2) := by decide +kernel
theorem dX10_drawn_119 : decode cX10_drawn 119 = .ok (.aload_n 0, 1) := by decide +kernel
theorem dX10_drawn_120 : decode cX10_drawn 120 = .ok (.iload 5, 2) := by decide +kernel
theorem dX10_drawn_122 : decode cX10_drawn 122 = .ok (.invokevirtual 208, 3) := by decide +kernel
theorem dX10_drawn_125 : decode cX10_drawn 125 = .ok (.i2l, 1) := by decide +kernel
theorem dX10_drawn_126 : decode cX10_drawn 126 = .ok (.lmul, 1) := by decide +kernel
theorem dX10_drawn_127 : decode cX10_drawn 127 = .ok (.lcmp, 1) := by decide +kernel
theorem dX10_drawn_128 : decode cX10_drawn 128 = .ok (.ifCond .gt 23, 3) := by decide +kernel
theorem dX10_drawn_131 : decode cX10_drawn 131 = .ok (.iinc 11 1, 3) := by decide +kernel
theorem dX10_drawn_134 : decode cX10_drawn 134 = .ok (.lload 12, 2) := by decide +kernel
theorem dX10_drawn_136 : decode cX10_drawn 136 = .ok (.aload_n 0, 1) := by decide +kernel
theorem dX10_drawn_137 : decode cX10_drawn 137 = .ok (.iload 5, 2) := by decide +kernel
theorem dX10_drawn_139 : decode cX10_drawn 139 = .ok (.iload 11, 2) := by decide +kernel
theorem dX10_drawn_141 : decode cX10_drawn 141 = .ok (.invokevirtual 205, 3) := by decide +kernel
theorem dX10_drawn_144 : decode cX10_drawn 144 = .ok (.i2l, 1) := by decide +kernel
theorem dX10_drawn_145 : decode cX10_drawn 145 = .ok (.ladd, 1) := by decide +kernel
theorem dX10_drawn_146 : decode cX10_drawn 146 = .ok (.lstore 12, 2) := by decide +kernel
theorem dX10_drawn_148 : decode cX10_drawn 148 = .ok (.goto (-48), 3) := by decide +kernel
theorem dX10_drawn_151 : decode cX10_drawn 151 = .ok (.iload 11, 2) := by decide +kernel
theorem dX10_drawn_153 : decode cX10_drawn 153 = .ok (.istore 5, 2) := by decide +kernel
theorem dX10_drawn_155 : decode cX10_drawn 155 = .ok (.iinc 6 1, 3) := by decide +kernel
theorem dX10_drawn_158 : decode cX10_drawn 158 = .ok (.goto (-127), 3) := by decide +kernel
theorem dX10_drawn_161 : decode cX10_drawn 161 = .ok (.iload 5, 2) := by decide +kernel
theorem dX10_drawn_163 : decode cX10_drawn 163 = .ok (.ireturn, 1) := by decide +kernel
theorem dX10_agree_0 : decode cX10_agree 0 = .ok (.aload_n 0, 1) := by decide +kernel
theorem dX10_agree_1 : decode cX10_agree 1 = .ok (.iconst 0, 1) := by decide +kernel
theorem dX10_agree_2 : decode cX10_agree 2 = .ok (.putfield 91, 3) := by decide +kernel
theorem dX10_agree_5 : decode cX10_agree 5 = .ok (.iload_n 1, 1) := by decide +kernel
theorem dX10_agree_6 : decode cX10_agree 6 = .ok (.i2l, 1) := by decide +kernel
theorem dX10_agree_7 : decode cX10_agree 7 = .ok (.lconst 0, 1) := by decide +kernel
theorem dX10_agree_8 : decode cX10_agree 8 = .ok (.ldc2_w 106, 3) := by decide +kernel
theorem dX10_agree_11 : decode cX10_agree 11 = .ok (.invokestatic 94, 3) := by decide +kernel
theorem dX10_agree_14 : decode cX10_agree 14 = .ok (.ifCond .eq 30, 3) := by decide +kernel
theorem dX10_agree_17 : decode cX10_agree 17 = .ok (.iload_n 2, 1) := by decide +kernel
theorem dX10_agree_18 : decode cX10_agree 18 = .ok (.i2l, 1) := by decide +kernel
theorem dX10_agree_19 : decode cX10_agree 19 = .ok (.lconst 0, 1) := by decide +kernel
theorem dX10_agree_20 : decode cX10_agree 20 = .ok (.ldc2_w 106, 3) := by decide +kernel
theorem dX10_agree_23 : decode cX10_agree 23 = .ok (.invokestatic 94, 3) := by decide +kernel
theorem dX10_agree_26 : decode cX10_agree 26 = .ok (.ifCond .eq 18, 3) := by decide +kernel
theorem dX10_agree_29 : decode cX10_agree 29 = .ok (.iload_n 1, 1) := by decide +kernel
theorem dX10_agree_30 : decode cX10_agree 30 = .ok (.iload_n 2, 1) := by decide +kernel
theorem dX10_agree_31 : decode cX10_agree 31 = .ok (.if_icmp .eq 13, 3) := by decide +kernel
theorem dX10_agree_34 : decode cX10_agree 34 = .ok (.iload_n 3, 1) := by decide +kernel
theorem dX10_agree_35 : decode cX10_agree 35 = .ok (.i2l, 1) := by decide +kernel
theorem dX10_agree_36 : decode cX10_agree 36 = .ok (.lconst 0, 1) := by decide +kernel
theorem dX10_agree_37 : decode cX10_agree 37 = .ok (.lconst 1, 1) := by decide +kernel
theorem dX10_agree_38 : decode cX10_agree 38 = .ok (.invokestatic 94, 3) := by decide +kernel
theorem dX10_agree_41 : decode cX10_agree 41 = .ok (.ifCond .ne 7, 3) := by decide +kernel
theorem dX10_agree_44 : decode cX10_agree 44 = .ok (.ldc2_w 215, 3) := by decide +kernel
theorem dX10_agree_47 : decode cX10_agree 47 = .ok (.lreturn, 1) := by decide +kernel
theorem dX10_agree_48 : decode cX10_agree 48 = .ok (.lconst 0, 1) := by decide +kernel
theorem dX10_agree_49 : decode cX10_agree 49 = .ok (.lstore 4, 2) := by decide +kernel
theorem dX10_agree_51 : decode cX10_agree 51 = .ok (.lconst 0, 1) := by decide +kernel
theorem dX10_agree_52 : decode cX10_agree 52 = .ok (.lstore 6, 2) := by decide +kernel
theorem dX10_agree_54 : decode cX10_agree 54 = .ok (.iconst 0, 1) := by decide +kernel
theorem dX10_agree_55 : decode cX10_agree 55 = .ok (.istore 8, 2) := by decide +kernel
theorem dX10_agree_57 : decode cX10_agree 57 = .ok (.iload 8, 2) := by decide +kernel
theorem dX10_agree_59 : decode cX10_agree 59 = .ok (.bipush 120, 2) := by decide +kernel
theorem dX10_agree_61 : decode cX10_agree 61 = .ok (.if_icmp .ge 80, 3) := by decide +kernel
theorem dX10_agree_64 : decode cX10_agree 64 = .ok (.aload_n 0, 1) := by decide +kernel
theorem dX10_agree_65 : decode cX10_agree 65 = .ok (.getfield 7, 3) := by decide +kernel
theorem dX10_agree_68 : decode cX10_agree 68 = .ok (.iconst 4, 1) := by decide +kernel
theorem dX10_agree_69 : decode cX10_agree 69 = .ok (.iload 8, 2) := by decide +kernel
theorem dX10_agree_71 : decode cX10_agree 71 = .ok (.imul, 1) := by decide +kernel
theorem dX10_agree_72 : decode cX10_agree 72 = .ok (.iload_n 1, 1) := by decide +kernel
theorem dX10_agree_73 : decode cX10_agree 73 = .ok (.iadd, 1) := by decide +kernel
theorem dX10_agree_74 : decode cX10_agree 74 = .ok (.iaload, 1) := by decide +kernel
theorem dX10_agree_75 : decode cX10_agree 75 = .ok (.istore 9, 2) := by decide +kernel
theorem dX10_agree_77 : decode cX10_agree 77 = .ok (.aload_n 0, 1) := by decide +kernel
theorem dX10_agree_78 : decode cX10_agree 78 = .ok (.getfield 7, 3) := by decide +kernel
theorem dX10_agree_81 : decode cX10_agree 81 = .ok (.iconst 4, 1) := by decide +kernel
theorem dX10_agree_82 : decode cX10_agree 82 = .ok (.iload 8, 2) := by decide +kernel
theorem dX10_agree_84 : decode cX10_agree 84 = .ok (.imul, 1) := by decide +kernel
theorem dX10_agree_85 : decode cX10_agree 85 = .ok (.iload_n 2, 1) := by decide +kernel
theorem dX10_agree_86 : decode cX10_agree 86 = .ok (.iadd, 1) := by decide +kernel
theorem dX10_agree_87 : decode cX10_agree 87 = .ok (.iaload, 1) := by decide +kernel
theorem dX10_agree_88 : decode cX10_agree 88 = .ok (.istore 10, 2) := by decide +kernel
theorem dX10_agree_90 : decode cX10_agree 90 = .ok (.lload 4, 2) := by decide +kernel
theorem dX10_agree_92 : decode cX10_agree 92 = .ok (.iload 9, 2) := by decide +kernel
theorem dX10_agree_94 : decode cX10_agree 94 = .ok (.iconst (-1), 1) := by decide +kernel
theorem dX10_agree_95 : decode cX10_agree 95 = .ok (.if_icmp .eq 13, 3) := by decide +kernel
theorem dX10_agree_98 : decode cX10_agree 98 = .ok (.iload 10, 2) := by decide +kernel
theorem dX10_agree_100 : decode cX10_agree 100 = .ok (.iconst (-1), 1) := by decide +kernel
theorem dX10_agree_101 : decode cX10_agree 101 = .ok (.if_icmp .eq 7, 3) := by decide +kernel
theorem dX10_agree_104 : decode cX10_agree 104 = .ok (.lconst 1, 1) := by decide +kernel
theorem dX10_agree_105 : decode cX10_agree 105 = .ok (.goto 4, 3) := by decide +kernel
theorem dX10_agree_108 : decode cX10_agree 108 = .ok (.lconst 0, 1) := by decide +kernel
theorem dX10_agree_109 : decode cX10_agree 109 = .ok (.ladd, 1) := by decide +kernel
theorem dX10_agree_110 : decode cX10_agree 110 = .ok (.lstore 4, 2) := by decide +kernel
theorem dX10_agree_112 : decode cX10_agree 112 = .ok (.lload 6, 2) := by decide +kernel
theorem dX10_agree_114 : decode cX10_agree 114 = .ok (.iload 9, 2) := by decide +kernel
theorem dX10_agree_116 : decode cX10_agree 116 = .ok (.iconst (-1), 1) := by decide +kernel
theorem dX10_agree_117 : decode cX10_agree 117 = .ok (.if_icmp .eq 14, 3) := by decide +kernel
theorem dX10_agree_120 : decode cX10_agree 120 = .ok (.iload 9, 2) := by decide +kernel
theorem dX10_agree_122 : decode cX10_agree 122 = .ok (.iload 10, 2) := by decide +kernel
theorem dX10_agree_124 : decode cX10_agree 124 = .ok (.if_icmp .ne 7, 3) := by decide +kernel
theorem dX10_agree_127 : decode cX10_agree 127 = .ok (.lconst 1, 1) := by decide +kernel
theorem dX10_agree_128 : decode cX10_agree 128 = .ok (.goto 4, 3) := by decide +kernel
theorem dX10_agree_131 : decode cX10_agree 131 = .ok (.lconst 0, 1) := by decide +kernel
theorem dX10_agree_132 : decode cX10_agree 132 = .ok (.ladd, 1) := by decide +kernel
theorem dX10_agree_133 : decode cX10_agree 133 = .ok (.lstore 6, 2) := by decide +kernel
theorem dX10_agree_135 : decode cX10_agree 135 = .ok (.iinc 8 1, 3) := by decide +kernel
theorem dX10_agree_138 : decode cX10_agree 138 = .ok (.goto (-81), 3) := by decide +kernel
theorem dX10_agree_141 : decode cX10_agree 141 = .ok (.lconst 0, 1) := by decide +kernel
theorem dX10_agree_142 : decode cX10_agree 142 = .ok (.lstore 8, 2) := by decide +kernel
theorem dX10_agree_144 : decode cX10_agree 144 = .ok (.iconst 0, 1) := by decide +kernel
theorem dX10_agree_145 : decode cX10_agree 145 = .ok (.istore 10, 2) := by decide +kernel
theorem dX10_agree_147 : decode cX10_agree 147 = .ok (.iload 10, 2) := by decide +kernel
theorem dX10_agree_149 : decode cX10_agree 149 = .ok (.aload_n 0, 1) := by decide +kernel
theorem dX10_agree_150 : decode cX10_agree 150 = .ok (.getfield 75, 3) := by decide +kernel
theorem dX10_agree_153 : decode cX10_agree 153 = .ok (.if_icmp .ge 140, 3) := by decide +kernel
theorem dX10_agree_156 : decode cX10_agree 156 = .ok (.lconst 0, 1) := by decide +kernel
theorem dX10_agree_157 : decode cX10_agree 157 = .ok (.lstore 11, 2) := by decide +kernel
theorem dX10_agree_159 : decode cX10_agree 159 = .ok (.lconst 0, 1) := by decide +kernel
theorem dX10_agree_160 : decode cX10_agree 160 = .ok (.lstore 13, 2) := by decide +kernel
theorem dX10_agree_162 : decode cX10_agree 162 = .ok (.iconst 0, 1) := by decide +kernel
theorem dX10_agree_163 : decode cX10_agree 163 = .ok (.istore 15, 2) := by decide +kernel
theorem dX10_agree_165 : decode cX10_agree 165 = .ok (.iload 15, 2) := by decide +kernel
theorem dX10_agree_167 : decode cX10_agree 167 = .ok (.bipush 120, 2) := by decide +kernel
theorem dX10_agree_169 : decode cX10_agree 169 = .ok (.if_icmp .ge 108, 3) := by decide +kernel
theorem dX10_agree_172 : decode cX10_agree 172 = .ok (.aload_n 0, 1) := by decide +kernel
theorem dX10_agree_173 : decode cX10_agree 173 = .ok (.getfield 7, 3) := by decide +kernel
theorem dX10_agree_176 : decode cX10_agree 176 = .ok (.iconst 4, 1) := by decide +kernel
theorem dX10_agree_177 : decode cX10_agree 177 = .ok (.iload 15, 2) := by decide +kernel
theorem dX10_agree_179 : decode cX10_agree 179 = .ok (.imul, 1) := by decide +kernel
theorem dX10_agree_180 : decode cX10_agree 180 = .ok (.iload_n 1, 1) := by decide +kernel
theorem dX10_agree_181 : decode cX10_agree 181 = .ok (.iadd, 1) := by decide +kernel
theorem dX10_agree_182 : decode cX10_agree 182 = .ok (.iaload, 1) := by decide +kernel
theorem dX10_agree_183 : decode cX10_agree 183 = .ok (.iconst (-1), 1) := by decide +kernel
theorem dX10_agree_184 : decode cX10_agree 184 = .ok (.if_icmp .eq 22, 3) := by decide +kernel
theorem dX10_agree_187 : decode cX10_agree 187 = .ok (.aload_n 0, 1) := by decide +kernel
theorem dX10_agree_188 : decode cX10_agree 188 = .ok (.getfield 7, 3) := by decide +kernel
theorem dX10_agree_191 : decode cX10_agree 191 = .ok (.iconst 4, 1) := by decide +kernel
theorem dX10_agree_192 : decode cX10_agree 192 = .ok (.iload 15, 2) := by decide +kernel
theorem dX10_agree_194 : decode cX10_agree 194 = .ok (.imul, 1) := by decide +kernel
theorem dX10_agree_195 : decode cX10_agree 195 = .ok (.iload_n 2, 1) := by decide +kernel
theorem dX10_agree_196 : decode cX10_agree 196 = .ok (.iadd, 1) := by decide +kernel
theorem dX10_agree_197 : decode cX10_agree 197 = .ok (.iaload, 1) := by decide +kernel
theorem dX10_agree_198 : decode cX10_agree 198 = .ok (.iconst (-1), 1) := by decide +kernel
theorem dX10_agree_199 : decode cX10_agree 199 = .ok (.if_icmp .eq 7, 3) := by decide +kernel
theorem dX10_agree_202 : decode cX10_agree 202 = .ok (.iconst 1, 1) := by decide +kernel
theorem dX10_agree_203 : decode cX10_agree 203 = .ok (.goto 4, 3) := by decide +kernel
theorem dX10_agree_206 : decode cX10_agree 206 = .ok (.iconst 0, 1) := by decide +kernel
theorem dX10_agree_207 : decode cX10_agree 207 = .ok (.istore 16, 2) := by decide +kernel
theorem dX10_agree_209 : decode cX10_agree 209 = .ok (.lload 11, 2) := by decide +kernel
theorem dX10_agree_211 : decode cX10_agree 211 = .ok (.iload 16, 2) := by decide +kernel
theorem dX10_agree_213 : decode cX10_agree 213 = .ok (.ifCond .eq 23, 3) := by decide +kernel
theorem dX10_agree_216 : decode cX10_agree 216 = .ok (.aload_n 0, 1) := by decide +kernel
theorem dX10_agree_217 : decode cX10_agree 217 = .ok (.getfield 7, 3) := by decide +kernel
theorem dX10_agree_220 : decode cX10_agree 220 = .ok (.iconst 4, 1) := by decide +kernel
theorem dX10_agree_221 : decode cX10_agree 221 = .ok (.iload 15, 2) := by decide +kernel
theorem dX10_agree_223 : decode cX10_agree 223 = .ok (.imul, 1) := by decide +kernel
theorem dX10_agree_224 : decode cX10_agree 224 = .ok (.iload_n 1, 1) := by decide +kernel
theorem dX10_agree_225 : decode cX10_agree 225 = .ok (.iadd, 1) := by decide +kernel
theorem dX10_agree_226 : decode cX10_agree 226 = .ok (.iaload, 1) := by decide +kernel
theorem dX10_agree_227 : decode cX10_agree 227 = .ok (.iload 10, 2) := by decide +kernel
theorem dX10_agree_229 : decode cX10_agree 229 = .ok (.if_icmp .ne 7, 3) := by decide +kernel
theorem dX10_agree_232 : decode cX10_agree 232 = .ok (.lconst 1, 1) := by decide +kernel
theorem dX10_agree_233 : decode cX10_agree 233 = .ok (.goto 4, 3) := by decide +kernel
theorem dX10_agree_236 : decode cX10_agree 236 = .ok (.lconst 0, 1) := by decide +kernel
theorem dX10_agree_237 : decode cX10_agree 237 = .ok (.ladd, 1) := by decide +kernel
theorem dX10_agree_238 : decode cX10_agree 238 = .ok (.lstore 11, 2) := by decide +kernel
theorem dX10_agree_240 : decode cX10_agree 240 = .ok (.lload 13, 2) := by decide +kernel
theorem dX10_agree_242 : decode cX10_agree 242 = .ok (.iload 16, 2) := by decide +kernel
theorem dX10_agree_244 : decode cX10_agree 244 = .ok (.ifCond .eq 23, 3) := by decide +kernel
theorem dX10_agree_247 : decode cX10_agree 247 = .ok (.aload_n 0, 1) := by decide +kernel
theorem dX10_agree_248 : decode cX10_agree 248 = .ok (.getfield 7, 3) := by decide +kernel
theorem dX10_agree_251 : decode cX10_agree 251 = .ok (.iconst 4, 1) := by decide +kernel
theorem dX10_agree_252 : decode cX10_agree 252 = .ok (.iload 15, 2) := by decide +kernel
theorem dX10_agree_254 : decode cX10_agree 254 = .ok (.imul, 1) := by decide +kernel
theorem dX10_agree_255 : decode cX10_agree 255 = .ok (.iload_n 2, 1) := by decide +kernel
theorem dX10_agree_256 : decode cX10_agree 256 = .ok (.iadd, 1) := by decide +kernel
theorem dX10_agree_257 : decode cX10_agree 257 = .ok (.iaload, 1) := by decide +kernel
theorem dX10_agree_258 : decode cX10_agree 258 = .ok (.iload 10, 2) := by decide +kernel
theorem dX10_agree_260 : decode cX10_agree 260 = .ok (.if_icmp .ne 7, 3) := by decide +kernel
theorem dX10_agree_263 : decode cX10_agree 263 = .ok (.lconst 1, 1) := by decide +kernel
theorem dX10_agree_264 : decode cX10_agree 264 = .ok (.goto 4, 3) := by decide +kernel
theorem dX10_agree_267 : decode cX10_agree 267 = .ok (.lconst 0, 1) := by decide +kernel
theorem dX10_agree_268 : decode cX10_agree 268 = .ok (.ladd, 1) := by decide +kernel
theorem dX10_agree_269 : decode cX10_agree 269 = .ok (.lstore 13, 2) := by decide +kernel
theorem dX10_agree_271 : decode cX10_agree 271 = .ok (.iinc 15 1, 3) := by decide +kernel
theorem dX10_agree_274 : decode cX10_agree 274 = .ok (.goto (-109), 3) := by decide +kernel
theorem dX10_agree_277 : decode cX10_agree 277 = .ok (.lload 8, 2) := by decide +kernel
theorem dX10_agree_279 : decode cX10_agree 279 = .ok (.lload 11, 2) := by decide +kernel
theorem dX10_agree_281 : decode cX10_agree 281 = .ok (.lload 13, 2) := by decide +kernel
theorem dX10_agree_283 : decode cX10_agree 283 = .ok (.lmul, 1) := by decide +kernel
theorem dX10_agree_284 : decode cX10_agree 284 = .ok (.ladd, 1) := by decide +kernel
theorem dX10_agree_285 : decode cX10_agree 285 = .ok (.lstore 8, 2) := by decide +kernel
theorem dX10_agree_287 : decode cX10_agree 287 = .ok (.iinc 10 1, 3) := by decide +kernel
theorem dX10_agree_290 : decode cX10_agree 290 = .ok (.goto (-143), 3) := by decide +kernel
theorem dX10_agree_293 : decode cX10_agree 293 = .ok (.lload 4, 2) := by decide +kernel
theorem dX10_agree_295 : decode cX10_agree 295 = .ok (.lload 6, 2) := by decide +kernel
theorem dX10_agree_297 : decode cX10_agree 297 = .ok (.lmul, 1) := by decide +kernel
theorem dX10_agree_298 : decode cX10_agree 298 = .ok (.lload 8, 2) := by decide +kernel
theorem dX10_agree_300 : decode cX10_agree 300 = .ok (.lsub, 1) := by decide +kernel
theorem dX10_agree_301 : decode cX10_agree 301 = .ok (.lstore 10, 2) := by decide +kernel
theorem dX10_agree_303 : decode cX10_agree 303 = .ok (.lload 4, 2) := by decide +kernel
theorem dX10_agree_305 : decode cX10_agree 305 = .ok (.lload 4, 2) := by decide +kernel
theorem dX10_agree_307 : decode cX10_agree 307 = .ok (.lmul, 1) := by decide +kernel
theorem dX10_agree_308 : decode cX10_agree 308 = .ok (.lload 8, 2) := by decide +kernel
theorem dX10_agree_310 : decode cX10_agree 310 = .ok (.lsub, 1) := by decide +kernel
theorem dX10_agree_311 : decode cX10_agree 311 = .ok (.lstore 12, 2) := by decide +kernel
theorem dX10_agree_313 : decode cX10_agree 313 = .ok (.lload 12, 2) := by decide +kernel
theorem dX10_agree_315 : decode cX10_agree 315 = .ok (.lconst 0, 1) := by decide +kernel
theorem dX10_agree_316 : decode cX10_agree 316 = .ok (.lcmp, 1) := by decide +kernel
theorem dX10_agree_317 : decode cX10_agree 317 = .ok (.ifCond .ne 5, 3) := by decide +kernel
theorem dX10_agree_320 : decode cX10_agree 320 = .ok (.lconst 0, 1) := by decide +kernel
theorem dX10_agree_321 : decode cX10_agree 321 = .ok (.lreturn, 1) := by decide +kernel
theorem dX10_agree_322 : decode cX10_agree 322 = .ok (.iload_n 3, 1) := by decide +kernel
theorem dX10_agree_323 : decode cX10_agree 323 = .ok (.ifCond .ne 8, 3) := by decide +kernel
theorem dX10_agree_326 : decode cX10_agree 326 = .ok (.lload 10, 2) := by decide +kernel
theorem dX10_agree_328 : decode cX10_agree 328 = .ok (.goto 5, 3) := by decide +kernel
theorem dX10_agree_331 : decode cX10_agree 331 = .ok (.lload 12, 2) := by decide +kernel
theorem dX10_agree_333 : decode cX10_agree 333 = .ok (.lload 10, 2) := by decide +kernel
theorem dX10_agree_335 : decode cX10_agree 335 = .ok (.lload 12, 2) := by decide +kernel
theorem dX10_agree_337 : decode cX10_agree 337 = .ok (.invokestatic 211, 3) := by decide +kernel
theorem dX10_agree_340 : decode cX10_agree 340 = .ok (.ldiv, 1) := by decide +kernel
theorem dX10_agree_341 : decode cX10_agree 341 = .ok (.lreturn, 1) := by decide +kernel
set_option maxRecDepth 20000 in
theorem v_X10_goes_w_0 {g : xG} {Q : mQ} {s : MV} {x0 : Nat} {x1 : Nat} {x3 : Nat} {x4 : Nat} (V : BlkM g M_X10_goes x0 Q 3 [(0, .ref x0), (1, .int (nI x1)), (2, .ref (x0 + 13)), (3, .int (nI x3)), (4, .int (nI x4)), (5, .int (nI 0))] [] s) : BlkM g M_X10_goes x0 Q 0 [(0, .ref x0), (1, .int (nI x1)), (2, .ref (x0 + 13)), (3, .int (nI x3)), (4, .int (nI x4))] [] s := by
  intro h0 h nx HO HM
  refine r_iconst (v := (nI 0)) dX10_goes_0 rfl ?_
  refine r_istore (L' := [(5, .int (nI 0)), (0, .ref x0), (1, .int (nI x1)), (2, .ref (x0 + 13)), (3, .int (nI x3)), (4, .int (nI x4))]) dX10_goes_1 (by decide) rfl ?_
  exact Blk.sub [1, 2, 3, 4, 5, 0] rfl (V _ _ _ HO HM)
set_option maxRecDepth 20000 in
theorem v_X10_goes_w_3 {g : xG} {Q : mQ} {s : MV} {x0 : Nat} {x1 : Nat} {x3 : Nat} {x4 : Nat} {x5 : Nat} (V : ((x5 < 2 ^ 31 ∧ x4 < 2 ^ 31) ∧ ((x4 ≤ x5 → (Q none s)) ∧ (x5 < x4 → ((4 * ((12 * x3) + x5)) < 528 ∧ (CtM g M_X10_copy [.ref x0, .int (nI (x1 + (s.wk (4 * ((12 * x3) + x5))))), .int (nI 74)] x0 s (fun r s3 => r = none ∧ (((4 * ((12 * x3) + x5)) + 2) < 528 ∧ ((s3.wk ((4 * ((12 * x3) + x5)) + 2)) < 2 ^ 31 ∧ (((4 * ((12 * x3) + x5)) + 3) < 528 ∧ (CtM g M_X10_part [.ref x0, .int (nI 74), .long (lN (s3.wk ((4 * ((12 * x3) + x5)) + 2))), .int (nI (s3.wk ((4 * ((12 * x3) + x5)) + 3)))] x0 s3 (fun r s6 => r = none ∧ ((4 * ((12 * x3) + x5)) < 528 ∧ (CtM g M_X10_take [.ref x0, .int (nI (x1 + (s6.wk (4 * ((12 * x3) + x5))))), .int (nI 74)] x0 s6 (fun r s9 => r = none ∧ (((4 * ((12 * x3) + x5)) + 1) < 528 ∧ (CtM g M_X10_add [.ref x0, .int (nI (x1 + (s9.wk ((4 * ((12 * x3) + x5)) + 1)))), .int (nI 74)] x0 s9 (fun r s12 => r = none ∧ BlkM g M_X10_goes x0 Q 3 [(0, .ref x0), (1, .int (nI x1)), (2, .ref (x0 + 13)), (3, .int (nI x3)), (4, .int (nI x4)), (5, .int (nI (x5 + 1)))] [] s12)))))))))))))))))) : BlkM g M_X10_goes x0 Q 3 [(0, .ref x0), (1, .int (nI x1)), (2, .ref (x0 + 13)), (3, .int (nI x3)), (4, .int (nI x4)), (5, .int (nI x5))] [] s := by
  intro h0 h nx HO HM
  refine r_iload 5 dX10_goes_3 rfl ?_
  refine r_iload 4 dX10_goes_5 rfl ?_
  obtain ⟨c, V⟩ := V
  refine r_icmp_geN (tgt := 84) dX10_goes_7 (by decide) c (fun c => ?_) (fun c => ?_)
  · have V := V.1 c
    exact r_vret dX10_goes_84 rfl (by decide) (by decide) ⟨rfl, HO, _, HM, V⟩
  · have V := V.2 c
    refine r_iconst (v := (nI 4)) dX10_goes_10 rfl ?_
    refine r_bipush (v := (nI 12)) dX10_goes_11 rfl ?_
    refine r_iload_n 3 dX10_goes_13 rfl rfl ?_
    refine r_imulN dX10_goes_14 ?_
    refine r_iload 5 dX10_goes_15 rfl ?_
    refine r_iaddN dX10_goes_17 ?_
    refine r_imulN dX10_goes_18 ?_
    refine r_istore (L' := [(6, .int (nI (4 * ((12 * x3) + x5)))), (0, .ref x0), (1, .int (nI x1)), (2, .ref (x0 + 13)), (3, .int (nI x3)), (4, .int (nI x4)), (5, .int (nI x5))]) dX10_goes_19 (by decide) rfl ?_
    refine r_aload_n 1 dX10_goes_21 rfl rfl ?_
    refine r_iload_n 2 dX10_goes_22 rfl rfl ?_
    refine r_aload_n 3 dX10_goes_23 rfl rfl ?_
    refine r_iload 0 dX10_goes_24 rfl ?_
    obtain ⟨c, V⟩ := V
    refine r_iald dX10_goes_26 (MAt.g_wk HM) rfl c (by decide) ?_
    show Blk g M_X10_goes (pM x0 h0 nx Q) 27 [(6, .int (nI (4 * ((12 * x3) + x5)))), (0, .ref x0), (1, .int (nI x1)), (2, .ref (x0 + 13)), (3, .int (nI x3)), (4, .int (nI x4)), (5, .int (nI x5))] [.int (nI (s.wk (4 * ((12 * x3) + x5)))), .int (nI x1), .ref x0] h nx 0 0
    refine r_iaddN dX10_goes_27 ?_
    refine r_bipush (v := (nI 74)) dX10_goes_28 rfl ?_
    refine r_callV (M2 := M_X10_copy) (ci := 11) (n := 2) (As := [.int (nI (x1 + (s.wk (4 * ((12 * x3) + x5))))), .int (nI 74)]) rfl (wl5 wM_X10_232 wi_X10_copy wS_X10_copy wI_StateSharesModel wc_X10_copy) (by decide +kernel) (by decide) rfl rfl (Nat.le_of_ble_eq_true rfl) dX10_goes_30 (MAt.o_ HM) (by decide) (by decide) (Ct.imp (V _ _ HM) (fun r h1 n2 V => ?_))
    obtain ⟨rfl, Oh1, s3, HMh1, V⟩ := V
    have HOh1 := Off.tr HO Oh1
    obtain ⟨rfl, V⟩ := V
    show Blk g M_X10_goes (pM x0 h0 nx Q) 33 [(6, .int (nI (4 * ((12 * x3) + x5)))), (0, .ref x0), (1, .int (nI x1)), (2, .ref (x0 + 13)), (3, .int (nI x3)), (4, .int (nI x4)), (5, .int (nI x5))] [] h1 nx 0 0
    refine r_aload_n 1 dX10_goes_33 rfl rfl ?_
    refine r_bipush (v := (nI 74)) dX10_goes_34 rfl ?_
    refine r_aload_n 3 dX10_goes_36 rfl rfl ?_
    refine r_iload 0 dX10_goes_37 rfl ?_
    refine r_iconst (v := (nI 2)) dX10_goes_39 rfl ?_
    refine r_iaddN dX10_goes_40 ?_
    obtain ⟨c, V⟩ := V
    refine r_iald dX10_goes_41 (MAt.g_wk HMh1) rfl c (by decide) ?_
    show Blk g M_X10_goes (pM x0 h0 nx Q) 42 [(6, .int (nI (4 * ((12 * x3) + x5)))), (0, .ref x0), (1, .int (nI x1)), (2, .ref (x0 + 13)), (3, .int (nI x3)), (4, .int (nI x4)), (5, .int (nI x5))] [.int (nI (s3.wk ((4 * ((12 * x3) + x5)) + 2))), .int (nI 74), .ref x0] h1 nx 0 0
    obtain ⟨c, V⟩ := V
    refine r_i2lN dX10_goes_42 c ?_
    refine r_aload_n 3 dX10_goes_43 rfl rfl ?_
    refine r_iload 0 dX10_goes_44 rfl ?_
    refine r_iconst (v := (nI 3)) dX10_goes_46 rfl ?_
    refine r_iaddN dX10_goes_47 ?_
    obtain ⟨c, V⟩ := V
    refine r_iald dX10_goes_48 (MAt.g_wk HMh1) rfl c (by decide) ?_
    show Blk g M_X10_goes (pM x0 h0 nx Q) 49 [(6, .int (nI (4 * ((12 * x3) + x5)))), (0, .ref x0), (1, .int (nI x1)), (2, .ref (x0 + 13)), (3, .int (nI x3)), (4, .int (nI x4)), (5, .int (nI x5))] [.int (nI (s3.wk ((4 * ((12 * x3) + x5)) + 3))), .long (lN (s3.wk ((4 * ((12 * x3) + x5)) + 2))), .int (nI 74), .ref x0] h1 nx 0 0
    refine r_callV (M2 := M_X10_part) (ci := 11) (n := 3) (As := [.int (nI 74), .long (lN (s3.wk ((4 * ((12 * x3) + x5)) + 2))), .int (nI (s3.wk ((4 * ((12 * x3) + x5)) + 3)))]) rfl (wl5 wM_X10_249 wi_X10_part wS_X10_part wI_StateSharesModel wc_X10_part) (by decide +kernel) (by decide) rfl rfl (Nat.le_of_ble_eq_true rfl) dX10_goes_49 (MAt.o_ HMh1) (by decide) (by decide) (Ct.imp (V _ _ HMh1) (fun r h4 n5 V => ?_))
    obtain ⟨rfl, Oh4, s6, HMh4, V⟩ := V
    have HOh4 := Off.tr HOh1 Oh4
    obtain ⟨rfl, V⟩ := V
    show Blk g M_X10_goes (pM x0 h0 nx Q) 52 [(6, .int (nI (4 * ((12 * x3) + x5)))), (0, .ref x0), (1, .int (nI x1)), (2, .ref (x0 + 13)), (3, .int (nI x3)), (4, .int (nI x4)), (5, .int (nI x5))] [] h4 nx 0 0
    refine r_aload_n 1 dX10_goes_52 rfl rfl ?_
    refine r_iload_n 2 dX10_goes_53 rfl rfl ?_
    refine r_aload_n 3 dX10_goes_54 rfl rfl ?_
    refine r_iload 0 dX10_goes_55 rfl ?_
    obtain ⟨c, V⟩ := V
    refine r_iald dX10_goes_57 (MAt.g_wk HMh4) rfl c (by decide) ?_
    show Blk g M_X10_goes (pM x0 h0 nx Q) 58 [(6, .int (nI (4 * ((12 * x3) + x5)))), (0, .ref x0), (1, .int (nI x1)), (2, .ref (x0 + 13)), (3, .int (nI x3)), (4, .int (nI x4)), (5, .int (nI x5))] [.int (nI (s6.wk (4 * ((12 * x3) + x5)))), .int (nI x1), .ref x0] h4 nx 0 0
    refine r_iaddN dX10_goes_58 ?_
    refine r_bipush (v := (nI 74)) dX10_goes_59 rfl ?_
    refine r_callV (M2 := M_X10_take) (ci := 11) (n := 2) (As := [.int (nI (x1 + (s6.wk (4 * ((12 * x3) + x5))))), .int (nI 74)]) rfl (wl5 wM_X10_253 wi_X10_take wS_X10_take wI_StateSharesModel wc_X10_take) (by decide +kernel) (by decide) rfl rfl (Nat.le_of_ble_eq_true rfl) dX10_goes_61 (MAt.o_ HMh4) (by decide) (by decide) (Ct.imp (V _ _ HMh4) (fun r h7 n8 V => ?_))
    obtain ⟨rfl, Oh7, s9, HMh7, V⟩ := V
    have HOh7 := Off.tr HOh4 Oh7
    obtain ⟨rfl, V⟩ := V
    show Blk g M_X10_goes (pM x0 h0 nx Q) 64 [(6, .int (nI (4 * ((12 * x3) + x5)))), (0, .ref x0), (1, .int (nI x1)), (2, .ref (x0 + 13)), (3, .int (nI x3)), (4, .int (nI x4)), (5, .int (nI x5))] [] h7 nx 0 0
    refine r_aload_n 1 dX10_goes_64 rfl rfl ?_
    refine r_iload_n 2 dX10_goes_65 rfl rfl ?_
    refine r_aload_n 3 dX10_goes_66 rfl rfl ?_
    refine r_iload 0 dX10_goes_67 rfl ?_
    refine r_iconst (v := (nI 1)) dX10_goes_69 rfl ?_
    refine r_iaddN dX10_goes_70 ?_
    obtain ⟨c, V⟩ := V
    refine r_iald dX10_goes_71 (MAt.g_wk HMh7) rfl c (by decide) ?_
    show Blk g M_X10_goes (pM x0 h0 nx Q) 72 [(6, .int (nI (4 * ((12 * x3) + x5)))), (0, .ref x0), (1, .int (nI x1)), (2, .ref (x0 + 13)), (3, .int (nI x3)), (4, .int (nI x4)), (5, .int (nI x5))] [.int (nI (s9.wk ((4 * ((12 * x3) + x5)) + 1))), .int (nI x1), .ref x0] h7 nx 0 0
    refine r_iaddN dX10_goes_72 ?_
    refine r_bipush (v := (nI 74)) dX10_goes_73 rfl ?_
    refine r_callV (M2 := M_X10_add) (ci := 11) (n := 2) (As := [.int (nI (x1 + (s9.wk ((4 * ((12 * x3) + x5)) + 1)))), .int (nI 74)]) rfl (wl5 wM_X10_256 wi_X10_add wS_X10_add wI_StateSharesModel wc_X10_add) (by decide +kernel) (by decide) rfl rfl (Nat.le_of_ble_eq_true rfl) dX10_goes_75 (MAt.o_ HMh7) (by decide) (by decide) (Ct.imp (V _ _ HMh7) (fun r h10 n11 V => ?_))
    obtain ⟨rfl, Oh10, s12, HMh10, V⟩ := V
    have HOh10 := Off.tr HOh7 Oh10
    obtain ⟨rfl, V⟩ := V
    show Blk g M_X10_goes (pM x0 h0 nx Q) 78 [(6, .int (nI (4 * ((12 * x3) + x5)))), (0, .ref x0), (1, .int (nI x1)), (2, .ref (x0 + 13)), (3, .int (nI x3)), (4, .int (nI x4)), (5, .int (nI x5))] [] h10 nx 0 0
    refine r_iincN 6 (b := 1) (L' := [(5, .int (nI (x5 + 1))), (6, .int (nI (4 * ((12 * x3) + x5)))), (0, .ref x0), (1, .int (nI x1)), (2, .ref (x0 + 13)), (3, .int (nI x3)), (4, .int (nI x4))]) dX10_goes_78 rfl rfl (by decide) rfl ?_
    refine r_goto (tgt := 3) dX10_goes_81 (by decide) ?_
    exact Blk.sub [2, 3, 4, 5, 6, 0] rfl (V _ _ _ HOh10 HMh10)
set_option maxRecDepth 20000 in
theorem v_X10_goes_e_0 {g : xG} {Q : mQ} {s : MV} {x0 : Nat} {x1 : Nat} {x3 : Nat} {x4 : Nat} (V : BlkM g M_X10_goes x0 Q 3 [(0, .ref x0), (1, .int (nI x1)), (2, .ref (x0 + 15)), (3, .int (nI x3)), (4, .int (nI x4)), (5, .int (nI 0))] [] s) : BlkM g M_X10_goes x0 Q 0 [(0, .ref x0), (1, .int (nI x1)), (2, .ref (x0 + 15)), (3, .int (nI x3)), (4, .int (nI x4))] [] s := by
  intro h0 h nx HO HM
  refine r_iconst (v := (nI 0)) dX10_goes_0 rfl ?_
  refine r_istore (L' := [(5, .int (nI 0)), (0, .ref x0), (1, .int (nI x1)), (2, .ref (x0 + 15)), (3, .int (nI x3)), (4, .int (nI x4))]) dX10_goes_1 (by decide) rfl ?_
  exact Blk.sub [1, 2, 3, 4, 5, 0] rfl (V _ _ _ HO HM)
set_option maxRecDepth 20000 in
theorem v_X10_goes_e_3 {g : xG} {Q : mQ} {s : MV} {x0 : Nat} {x1 : Nat} {x3 : Nat} {x4 : Nat} {x5 : Nat} (V : ((x5 < 2 ^ 31 ∧ x4 < 2 ^ 31) ∧ ((x4 ≤ x5 → (Q none s)) ∧ (x5 < x4 → ((4 * ((12 * x3) + x5)) < 528 ∧ (CtM g M_X10_copy [.ref x0, .int (nI (x1 + (s.ev (4 * ((12 * x3) + x5))))), .int (nI 74)] x0 s (fun r s3 => r = none ∧ (((4 * ((12 * x3) + x5)) + 2) < 528 ∧ ((s3.ev ((4 * ((12 * x3) + x5)) + 2)) < 2 ^ 31 ∧ (((4 * ((12 * x3) + x5)) + 3) < 528 ∧ (CtM g M_X10_part [.ref x0, .int (nI 74), .long (lN (s3.ev ((4 * ((12 * x3) + x5)) + 2))), .int (nI (s3.ev ((4 * ((12 * x3) + x5)) + 3)))] x0 s3 (fun r s6 => r = none ∧ ((4 * ((12 * x3) + x5)) < 528 ∧ (CtM g M_X10_take [.ref x0, .int (nI (x1 + (s6.ev (4 * ((12 * x3) + x5))))), .int (nI 74)] x0 s6 (fun r s9 => r = none ∧ (((4 * ((12 * x3) + x5)) + 1) < 528 ∧ (CtM g M_X10_add [.ref x0, .int (nI (x1 + (s9.ev ((4 * ((12 * x3) + x5)) + 1)))), .int (nI 74)] x0 s9 (fun r s12 => r = none ∧ BlkM g M_X10_goes x0 Q 3 [(0, .ref x0), (1, .int (nI x1)), (2, .ref (x0 + 15)), (3, .int (nI x3)), (4, .int (nI x4)), (5, .int (nI (x5 + 1)))] [] s12)))))))))))))))))) : BlkM g M_X10_goes x0 Q 3 [(0, .ref x0), (1, .int (nI x1)), (2, .ref (x0 + 15)), (3, .int (nI x3)), (4, .int (nI x4)), (5, .int (nI x5))] [] s := by
  intro h0 h nx HO HM
  refine r_iload 5 dX10_goes_3 rfl ?_
  refine r_iload 4 dX10_goes_5 rfl ?_
  obtain ⟨c, V⟩ := V
  refine r_icmp_geN (tgt := 84) dX10_goes_7 (by decide) c (fun c => ?_) (fun c => ?_)
  · have V := V.1 c
    exact r_vret dX10_goes_84 rfl (by decide) (by decide) ⟨rfl, HO, _, HM, V⟩
  · have V := V.2 c
    refine r_iconst (v := (nI 4)) dX10_goes_10 rfl ?_
    refine r_bipush (v := (nI 12)) dX10_goes_11 rfl ?_
    refine r_iload_n 3 dX10_goes_13 rfl rfl ?_
    refine r_imulN dX10_goes_14 ?_
    refine r_iload 5 dX10_goes_15 rfl ?_
    refine r_iaddN dX10_goes_17 ?_
    refine r_imulN dX10_goes_18 ?_
    refine r_istore (L' := [(6, .int (nI (4 * ((12 * x3) + x5)))), (0, .ref x0), (1, .int (nI x1)), (2, .ref (x0 + 15)), (3, .int (nI x3)), (4, .int (nI x4)), (5, .int (nI x5))]) dX10_goes_19 (by decide) rfl ?_
    refine r_aload_n 1 dX10_goes_21 rfl rfl ?_
    refine r_iload_n 2 dX10_goes_22 rfl rfl ?_
    refine r_aload_n 3 dX10_goes_23 rfl rfl ?_
    refine r_iload 0 dX10_goes_24 rfl ?_
    obtain ⟨c, V⟩ := V
    refine r_iald dX10_goes_26 (MAt.g_ev HM) rfl c (by decide) ?_
    show Blk g M_X10_goes (pM x0 h0 nx Q) 27 [(6, .int (nI (4 * ((12 * x3) + x5)))), (0, .ref x0), (1, .int (nI x1)), (2, .ref (x0 + 15)), (3, .int (nI x3)), (4, .int (nI x4)), (5, .int (nI x5))] [.int (nI (s.ev (4 * ((12 * x3) + x5)))), .int (nI x1), .ref x0] h nx 0 0
    refine r_iaddN dX10_goes_27 ?_
    refine r_bipush (v := (nI 74)) dX10_goes_28 rfl ?_
    refine r_callV (M2 := M_X10_copy) (ci := 11) (n := 2) (As := [.int (nI (x1 + (s.ev (4 * ((12 * x3) + x5))))), .int (nI 74)]) rfl (wl5 wM_X10_232 wi_X10_copy wS_X10_copy wI_StateSharesModel wc_X10_copy) (by decide +kernel) (by decide) rfl rfl (Nat.le_of_ble_eq_true rfl) dX10_goes_30 (MAt.o_ HM) (by decide) (by decide) (Ct.imp (V _ _ HM) (fun r h1 n2 V => ?_))
    obtain ⟨rfl, Oh1, s3, HMh1, V⟩ := V
    have HOh1 := Off.tr HO Oh1
    obtain ⟨rfl, V⟩ := V
    show Blk g M_X10_goes (pM x0 h0 nx Q) 33 [(6, .int (nI (4 * ((12 * x3) + x5)))), (0, .ref x0), (1, .int (nI x1)), (2, .ref (x0 + 15)), (3, .int (nI x3)), (4, .int (nI x4)), (5, .int (nI x5))] [] h1 nx 0 0
    refine r_aload_n 1 dX10_goes_33 rfl rfl ?_
    refine r_bipush (v := (nI 74)) dX10_goes_34 rfl ?_
    refine r_aload_n 3 dX10_goes_36 rfl rfl ?_
    refine r_iload 0 dX10_goes_37 rfl ?_
    refine r_iconst (v := (nI 2)) dX10_goes_39 rfl ?_
    refine r_iaddN dX10_goes_40 ?_
    obtain ⟨c, V⟩ := V
    refine r_iald dX10_goes_41 (MAt.g_ev HMh1) rfl c (by decide) ?_
    show Blk g M_X10_goes (pM x0 h0 nx Q) 42 [(6, .int (nI (4 * ((12 * x3) + x5)))), (0, .ref x0), (1, .int (nI x1)), (2, .ref (x0 + 15)), (3, .int (nI x3)), (4, .int (nI x4)), (5, .int (nI x5))] [.int (nI (s3.ev ((4 * ((12 * x3) + x5)) + 2))), .int (nI 74), .ref x0] h1 nx 0 0
    obtain ⟨c, V⟩ := V
    refine r_i2lN dX10_goes_42 c ?_
    refine r_aload_n 3 dX10_goes_43 rfl rfl ?_
    refine r_iload 0 dX10_goes_44 rfl ?_
    refine r_iconst (v := (nI 3)) dX10_goes_46 rfl ?_
    refine r_iaddN dX10_goes_47 ?_
    obtain ⟨c, V⟩ := V
    refine r_iald dX10_goes_48 (MAt.g_ev HMh1) rfl c (by decide) ?_
    show Blk g M_X10_goes (pM x0 h0 nx Q) 49 [(6, .int (nI (4 * ((12 * x3) + x5)))), (0, .ref x0), (1, .int (nI x1)), (2, .ref (x0 + 15)), (3, .int (nI x3)), (4, .int (nI x4)), (5, .int (nI x5))] [.int (nI (s3.ev ((4 * ((12 * x3) + x5)) + 3))), .long (lN (s3.ev ((4 * ((12 * x3) + x5)) + 2))), .int (nI 74), .ref x0] h1 nx 0 0
    refine r_callV (M2 := M_X10_part) (ci := 11) (n := 3) (As := [.int (nI 74), .long (lN (s3.ev ((4 * ((12 * x3) + x5)) + 2))), .int (nI (s3.ev ((4 * ((12 * x3) + x5)) + 3)))]) rfl (wl5 wM_X10_249 wi_X10_part wS_X10_part wI_StateSharesModel wc_X10_part) (by decide +kernel) (by decide) rfl rfl (Nat.le_of_ble_eq_true rfl) dX10_goes_49 (MAt.o_ HMh1) (by decide) (by decide) (Ct.imp (V _ _ HMh1) (fun r h4 n5 V => ?_))
    obtain ⟨rfl, Oh4, s6, HMh4, V⟩ := V
    have HOh4 := Off.tr HOh1 Oh4
    obtain ⟨rfl, V⟩ := V
    show Blk g M_X10_goes (pM x0 h0 nx Q) 52 [(6, .int (nI (4 * ((12 * x3) + x5)))), (0, .ref x0), (1, .int (nI x1)), (2, .ref (x0 + 15)), (3, .int (nI x3)), (4, .int (nI x4)), (5, .int (nI x5))] [] h4 nx 0 0
    refine r_aload_n 1 dX10_goes_52 rfl rfl ?_
    refine r_iload_n 2 dX10_goes_53 rfl rfl ?_
    refine r_aload_n 3 dX10_goes_54 rfl rfl ?_
    refine r_iload 0 dX10_goes_55 rfl ?_
    obtain ⟨c, V⟩ := V
    refine r_iald dX10_goes_57 (MAt.g_ev HMh4) rfl c (by decide) ?_
    show Blk g M_X10_goes (pM x0 h0 nx Q) 58 [(6, .int (nI (4 * ((12 * x3) + x5)))), (0, .ref x0), (1, .int (nI x1)), (2, .ref (x0 + 15)), (3, .int (nI x3)), (4, .int (nI x4)), (5, .int (nI x5))] [.int (nI (s6.ev (4 * ((12 * x3) + x5)))), .int (nI x1), .ref x0] h4 nx 0 0
    refine r_iaddN dX10_goes_58 ?_
    refine r_bipush (v := (nI 74)) dX10_goes_59 rfl ?_
    refine r_callV (M2 := M_X10_take) (ci := 11) (n := 2) (As := [.int (nI (x1 + (s6.ev (4 * ((12 * x3) + x5))))), .int (nI 74)]) rfl (wl5 wM_X10_253 wi_X10_take wS_X10_take wI_StateSharesModel wc_X10_take) (by decide +kernel) (by decide) rfl rfl (Nat.le_of_ble_eq_true rfl) dX10_goes_61 (MAt.o_ HMh4) (by decide) (by decide) (Ct.imp (V _ _ HMh4) (fun r h7 n8 V => ?_))
    obtain ⟨rfl, Oh7, s9, HMh7, V⟩ := V
    have HOh7 := Off.tr HOh4 Oh7
    obtain ⟨rfl, V⟩ := V
    show Blk g M_X10_goes (pM x0 h0 nx Q) 64 [(6, .int (nI (4 * ((12 * x3) + x5)))), (0, .ref x0), (1, .int (nI x1)), (2, .ref (x0 + 15)), (3, .int (nI x3)), (4, .int (nI x4)), (5, .int (nI x5))] [] h7 nx 0 0
    refine r_aload_n 1 dX10_goes_64 rfl rfl ?_
    refine r_iload_n 2 dX10_goes_65 rfl rfl ?_
    refine r_aload_n 3 dX10_goes_66 rfl rfl ?_
    refine r_iload 0 dX10_goes_67 rfl ?_
    refine r_iconst (v := (nI 1)) dX10_goes_69 rfl ?_
    refine r_iaddN dX10_goes_70 ?_
    obtain ⟨c, V⟩ := V
    refine r_iald dX10_goes_71 (MAt.g_ev HMh7) rfl c (by decide) ?_
    show Blk g M_X10_goes (pM x0 h0 nx Q) 72 [(6, .int (nI (4 * ((12 * x3) + x5)))), (0, .ref x0), (1, .int (nI x1)), (2, .ref (x0 + 15)), (3, .int (nI x3)), (4, .int (nI x4)), (5, .int (nI x5))] [.int (nI (s9.ev ((4 * ((12 * x3) + x5)) + 1))), .int (nI x1), .ref x0] h7 nx 0 0
    refine r_iaddN dX10_goes_72 ?_
    refine r_bipush (v := (nI 74)) dX10_goes_73 rfl ?_
    refine r_callV (M2 := M_X10_add) (ci := 11) (n := 2) (As := [.int (nI (x1 + (s9.ev ((4 * ((12 * x3) + x5)) + 1)))), .int (nI 74)]) rfl (wl5 wM_X10_256 wi_X10_add wS_X10_add wI_StateSharesModel wc_X10_add) (by decide +kernel) (by decide) rfl rfl (Nat.le_of_ble_eq_true rfl) dX10_goes_75 (MAt.o_ HMh7) (by decide) (by decide) (Ct.imp (V _ _ HMh7) (fun r h10 n11 V => ?_))
    obtain ⟨rfl, Oh10, s12, HMh10, V⟩ := V
    have HOh10 := Off.tr HOh7 Oh10
    obtain ⟨rfl, V⟩ := V
    show Blk g M_X10_goes (pM x0 h0 nx Q) 78 [(6, .int (nI (4 * ((12 * x3) + x5)))), (0, .ref x0), (1, .int (nI x1)), (2, .ref (x0 + 15)), (3, .int (nI x3)), (4, .int (nI x4)), (5, .int (nI x5))] [] h10 nx 0 0
    refine r_iincN 6 (b := 1) (L' := [(5, .int (nI (x5 + 1))), (6, .int (nI (4 * ((12 * x3) + x5)))), (0, .ref x0), (1, .int (nI x1)), (2, .ref (x0 + 15)), (3, .int (nI x3)), (4, .int (nI x4))]) dX10_goes_78 rfl rfl (by decide) rfl ?_
    refine r_goto (tgt := 3) dX10_goes_81 (by decide) ?_
    exact Blk.sub [2, 3, 4, 5, 6, 0] rfl (V _ _ _ HOh10 HMh10)
set_option maxRecDepth 20000 in
theorem v_X10_step_0 {g : xG} {Q : mQ} {s : MV} {x0 : Nat} {x1 : Nat} (V : BlkM g M_X10_step x0 Q 2 [(0, .ref x0), (1, .int (nI x1)), (2, .int (nI 0))] [] s) : BlkM g M_X10_step x0 Q 0 [(0, .ref x0), (1, .int (nI x1))] [] s := by
  intro h0 h nx HO HM
  refine r_iconst (v := (nI 0)) dX10_step_0 rfl ?_
  refine r_istore_n (L' := [(2, .int (nI 0)), (0, .ref x0), (1, .int (nI x1))]) dX10_step_1 rfl (by decide) rfl ?_
  exact Blk.sub [1, 2, 0] rfl (V _ _ _ HO HM)
set_option maxRecDepth 20000 in
theorem v_X10_step_2 {g : xG} {Q : mQ} {s : MV} {x0 : Nat} {x1 : Nat} {x2 : Nat} (V : ((x2 < 2 ^ 31 ∧ s.n < 2 ^ 31) ∧ ((s.n ≤ x2 → (x1 < 11 ∧ (CtM g M_X10_goes [.ref x0, .int (nI 75), .ref (x0 + 13), .int (nI x1), .int (nI (s.wc x1))] x0 s (fun r s3 => r = none ∧ BlkM g M_X10_step x0 Q 56 [(0, .ref x0), (1, .int (nI x1)), (2, .int (nI (6 * (x1 + 1)))), (3, .int (nI 0))] [] s3)))) ∧ (x2 < s.n → (CtM g M_X10_copy [.ref x0, .int (nI ((6 * x1) + x2)), .int (nI (75 + x2))] x0 s (fun r s6 => r = none ∧ BlkM g M_X10_step x0 Q 2 [(0, .ref x0), (1, .int (nI x1)), (2, .int (nI (x2 + 1)))] [] s6)))))) : BlkM g M_X10_step x0 Q 2 [(0, .ref x0), (1, .int (nI x1)), (2, .int (nI x2))] [] s := by
  intro h0 h nx HO HM
  refine r_iload_n 2 dX10_step_2 rfl rfl ?_
  refine r_aload_n 0 dX10_step_3 rfl rfl ?_
  refine r_getf (ci := 11) (kf := 1) (T := TX10) rfl in_X10 (by decide) wF_X10_75 dX10_step_4 (MAt.o_ HM) rfl ?_
  obtain ⟨c, V⟩ := V
  refine r_icmp_geN (tgt := 30) dX10_step_7 (by decide) c (fun c => ?_) (fun c => ?_)
  · have V := V.1 c
    refine r_aload_n 0 dX10_step_30 rfl rfl ?_
    refine r_bipush (v := (nI 75)) dX10_step_31 rfl ?_
    refine r_aload_n 0 dX10_step_33 rfl rfl ?_
    refine r_getf (ci := 11) (kf := 22) (T := TX10) rfl in_X10 (by decide) wF_X10_46 dX10_step_34 (MAt.o_ HM) rfl ?_
    refine r_iload_n 1 dX10_step_37 rfl rfl ?_
    refine r_aload_n 0 dX10_step_38 rfl rfl ?_
    refine r_getf (ci := 11) (kf := 21) (T := TX10) rfl in_X10 (by decide) wF_X10_43 dX10_step_39 (MAt.o_ HM) rfl ?_
    refine r_iload_n 1 dX10_step_42 rfl rfl ?_
    obtain ⟨c, V⟩ := V
    refine r_iald dX10_step_43 (MAt.g_wc HM) rfl c (by decide) ?_
    show Blk g M_X10_step (pM x0 h0 nx Q) 44 [(0, .ref x0), (1, .int (nI x1)), (2, .int (nI x2))] [.int (nI (s.wc x1)), .int (nI x1), .ref (x0 + 13), .int (nI 75), .ref x0] h nx 0 0
    refine r_callV (M2 := M_X10_goes) (ci := 11) (n := 4) (As := [.int (nI 75), .ref (x0 + 13), .int (nI x1), .int (nI (s.wc x1))]) rfl (wl5 wM_X10_259 wi_X10_goes wS_X10_goes wI_StateSharesModel wc_X10_goes) (by decide +kernel) (by decide) rfl rfl (Nat.le_of_ble_eq_true rfl) dX10_step_44 (MAt.o_ HM) (by decide) (by decide) (Ct.imp (V _ _ HM) (fun r h1 n2 V => ?_))
    obtain ⟨rfl, Oh1, s3, HMh1, V⟩ := V
    have HOh1 := Off.tr HO Oh1
    obtain ⟨rfl, V⟩ := V
    show Blk g M_X10_step (pM x0 h0 nx Q) 47 [(0, .ref x0), (1, .int (nI x1)), (2, .int (nI x2))] [] h1 nx 0 0
    refine r_bipush (v := (nI 6)) dX10_step_47 rfl ?_
    refine r_iload_n 1 dX10_step_49 rfl rfl ?_
    refine r_iconst (v := (nI 1)) dX10_step_50 rfl ?_
    refine r_iaddN dX10_step_51 ?_
    refine r_imulN dX10_step_52 ?_
    refine r_istore_n (L' := [(2, .int (nI (6 * (x1 + 1)))), (0, .ref x0), (1, .int (nI x1))]) dX10_step_53 rfl (by decide) rfl ?_
    refine r_iconst (v := (nI 0)) dX10_step_54 rfl ?_
    refine r_istore_n (L' := [(3, .int (nI 0)), (2, .int (nI (6 * (x1 + 1)))), (0, .ref x0), (1, .int (nI x1))]) dX10_step_55 rfl (by decide) rfl ?_
    exact Blk.sub [2, 3, 1, 0] rfl (V _ _ _ HOh1 HMh1)
  · have V := V.2 c
    refine r_aload_n 0 dX10_step_10 rfl rfl ?_
    refine r_bipush (v := (nI 6)) dX10_step_11 rfl ?_
    refine r_iload_n 1 dX10_step_13 rfl rfl ?_
    refine r_imulN dX10_step_14 ?_
    refine r_iload_n 2 dX10_step_15 rfl rfl ?_
    refine r_iaddN dX10_step_16 ?_
    refine r_bipush (v := (nI 75)) dX10_step_17 rfl ?_
    refine r_iload_n 2 dX10_step_19 rfl rfl ?_
    refine r_iaddN dX10_step_20 ?_
    refine r_callV (M2 := M_X10_copy) (ci := 11) (n := 2) (As := [.int (nI ((6 * x1) + x2)), .int (nI (75 + x2))]) rfl (wl5 wM_X10_232 wi_X10_copy wS_X10_copy wI_StateSharesModel wc_X10_copy) (by decide +kernel) (by decide) rfl rfl (Nat.le_of_ble_eq_true rfl) dX10_step_21 (MAt.o_ HM) (by decide) (by decide) (Ct.imp (V _ _ HM) (fun r h4 n5 V => ?_))
    obtain ⟨rfl, Oh4, s6, HMh4, V⟩ := V
    have HOh4 := Off.tr HO Oh4
    obtain ⟨rfl, V⟩ := V
    show Blk g M_X10_step (pM x0 h0 nx Q) 24 [(0, .ref x0), (1, .int (nI x1)), (2, .int (nI x2))] [] h4 nx 0 0
    refine r_iincN 2 (b := 1) (L' := [(2, .int (nI (x2 + 1))), (0, .ref x0), (1, .int (nI x1))]) dX10_step_24 rfl rfl (by decide) rfl ?_
    refine r_goto (tgt := 2) dX10_step_27 (by decide) ?_
    exact Blk.sub [1, 2, 0] rfl (V _ _ _ HOh4 HMh4)
set_option maxRecDepth 20000 in
theorem v_X10_step_56 {g : xG} {Q : mQ} {s : MV} {x0 : Nat} {x1 : Nat} {x2 : Nat} {x3 : Nat} (V : ((x3 < 2 ^ 31 ∧ s.n < 2 ^ 31) ∧ ((s.n ≤ x3 → (x1 < 11 ∧ (CtM g M_X10_goes [.ref x0, .int (nI x2), .ref (x0 + 15), .int (nI x1), .int (nI (s.ec x1))] x0 s (fun r s3 => r = none ∧ (x1 < 12 ∧ ((x1 + 1) < 12 ∧ (s3.tl x1) ≤ 1 ∧ BlkM g M_X10_step x0 Q 168 [(0, .ref x0), (1, .int (nI x1)), (2, .int (nI x2)), (3, .int (nI 0))] [] (MV.u_tl s3 (va_up s3.tl (x1 + 1) (s3.tl x1))))))))) ∧ (x3 < s.n → (CtM g M_X10_set [.ref x0, .int (nI (x2 + x3)), .long (lN 0)] x0 s (fun r s7 => r = none ∧ BlkM g M_X10_step x0 Q 75 [(0, .ref x0), (1, .int (nI x1)), (2, .int (nI x2)), (3, .int (nI x3)), (4, .int (nI 0))] [] s7)))))) : BlkM g M_X10_step x0 Q 56 [(0, .ref x0), (1, .int (nI x1)), (2, .int (nI x2)), (3, .int (nI x3))] [] s := by
  intro h0 h nx HO HM
  refine r_iload_n 3 dX10_step_56 rfl rfl ?_
  refine r_aload_n 0 dX10_step_57 rfl rfl ?_
  refine r_getf (ci := 11) (kf := 1) (T := TX10) rfl in_X10 (by decide) wF_X10_75 dX10_step_58 (MAt.o_ HM) rfl ?_
  obtain ⟨c, V⟩ := V
  refine r_icmp_geN (tgt := 136) dX10_step_61 (by decide) c (fun c => ?_) (fun c => ?_)
  · have V := V.1 c
    refine r_aload_n 0 dX10_step_136 rfl rfl ?_
    refine r_iload_n 2 dX10_step_137 rfl rfl ?_
    refine r_aload_n 0 dX10_step_138 rfl rfl ?_
    refine r_getf (ci := 11) (kf := 24) (T := TX10) rfl in_X10 (by decide) wF_X10_52 dX10_step_139 (MAt.o_ HM) rfl ?_
    refine r_iload_n 1 dX10_step_142 rfl rfl ?_
    refine r_aload_n 0 dX10_step_143 rfl rfl ?_
    refine r_getf (ci := 11) (kf := 23) (T := TX10) rfl in_X10 (by decide) wF_X10_49 dX10_step_144 (MAt.o_ HM) rfl ?_
    refine r_iload_n 1 dX10_step_147 rfl rfl ?_
    obtain ⟨c, V⟩ := V
    refine r_iald dX10_step_148 (MAt.g_ec HM) rfl c (by decide) ?_
    show Blk g M_X10_step (pM x0 h0 nx Q) 149 [(0, .ref x0), (1, .int (nI x1)), (2, .int (nI x2)), (3, .int (nI x3))] [.int (nI (s.ec x1)), .int (nI x1), .ref (x0 + 15), .int (nI x2), .ref x0] h nx 0 0
    refine r_callV (M2 := M_X10_goes) (ci := 11) (n := 4) (As := [.int (nI x2), .ref (x0 + 15), .int (nI x1), .int (nI (s.ec x1))]) rfl (wl5 wM_X10_259 wi_X10_goes wS_X10_goes wI_StateSharesModel wc_X10_goes) (by decide +kernel) (by decide) rfl rfl (Nat.le_of_ble_eq_true rfl) dX10_step_149 (MAt.o_ HM) (by decide) (by decide) (Ct.imp (V _ _ HM) (fun r h1 n2 V => ?_))
    obtain ⟨rfl, Oh1, s3, HMh1, V⟩ := V
    have HOh1 := Off.tr HO Oh1
    obtain ⟨rfl, V⟩ := V
    show Blk g M_X10_step (pM x0 h0 nx Q) 152 [(0, .ref x0), (1, .int (nI x1)), (2, .int (nI x2)), (3, .int (nI x3))] [] h1 nx 0 0
    refine r_aload_n 0 dX10_step_152 rfl rfl ?_
    refine r_getf (ci := 11) (kf := 30) (T := TX10) rfl in_X10 (by decide) wF_X10_71 dX10_step_153 (MAt.o_ HMh1) rfl ?_
    refine r_iload_n 1 dX10_step_156 rfl rfl ?_
    refine r_iconst (v := (nI 1)) dX10_step_157 rfl ?_
    refine r_iaddN dX10_step_158 ?_
    refine r_aload_n 0 dX10_step_159 rfl rfl ?_
    refine r_getf (ci := 11) (kf := 30) (T := TX10) rfl in_X10 (by decide) wF_X10_71 dX10_step_160 (MAt.o_ HMh1) rfl ?_
    refine r_iload_n 1 dX10_step_163 rfl rfl ?_
    obtain ⟨c, V⟩ := V
    refine r_zald dX10_step_164 (MAt.g_tl HMh1) rfl c (by decide) ?_
    show Blk g M_X10_step (pM x0 h0 nx Q) 165 [(0, .ref x0), (1, .int (nI x1)), (2, .int (nI x2)), (3, .int (nI x3))] [.int (nI (s3.tl x1)), .int (nI (x1 + 1)), .ref (x0 + 21)] h1 nx 0 0
    obtain ⟨c, c5, V⟩ := V
    refine r_zastN dX10_step_165 (MAt.g_tl HMh1) c (by decide) c5 ?_
    obtain ⟨hu4, eu4, HMu4, HOu4⟩ := mo_tl HMh1 HOh1 (va_up s3.tl (x1 + 1) (s3.tl x1))
    refine Blk.eqs ?_ rfl rfl eu4
    replace HMu4 : MAt hu4 x0 (MV.u_tl s3 (va_up s3.tl (x1 + 1) (s3.tl x1))) := HMu4
    show Blk g M_X10_step (pM x0 h0 nx Q) 166 [(0, .ref x0), (1, .int (nI x1)), (2, .int (nI x2)), (3, .int (nI x3))] [] hu4 nx 0 0
    refine r_iconst (v := (nI 0)) dX10_step_166 rfl ?_
    refine r_istore_n (L' := [(3, .int (nI 0)), (0, .ref x0), (1, .int (nI x1)), (2, .int (nI x2))]) dX10_step_167 rfl (by decide) rfl ?_
    exact Blk.sub [1, 2, 3, 0] rfl (V _ _ _ HOu4 HMu4)
  · have V := V.2 c
    refine r_aload_n 0 dX10_step_64 rfl rfl ?_
    refine r_iload_n 2 dX10_step_65 rfl rfl ?_
    refine r_iload_n 3 dX10_step_66 rfl rfl ?_
    refine r_iaddN dX10_step_67 ?_
    refine r_lconst (v := (lN 0)) dX10_step_68 rfl ?_
    refine r_callV (M2 := M_X10_set) (ci := 11) (n := 2) (As := [.int (nI (x2 + x3)), .long (lN 0)]) rfl (wl5 wM_X10_82 wi_X10_set wS_X10_set wI_StateSharesModel wc_X10_set) (by decide +kernel) (by decide) rfl rfl (Nat.le_of_ble_eq_true rfl) dX10_step_69 (MAt.o_ HM) (by decide) (by decide) (Ct.imp (V _ _ HM) (fun r h5 n6 V => ?_))
    obtain ⟨rfl, Oh5, s7, HMh5, V⟩ := V
    have HOh5 := Off.tr HO Oh5
    obtain ⟨rfl, V⟩ := V
    show Blk g M_X10_step (pM x0 h0 nx Q) 72 [(0, .ref x0), (1, .int (nI x1)), (2, .int (nI x2)), (3, .int (nI x3))] [] h5 nx 0 0
    refine r_iconst (v := (nI 0)) dX10_step_72 rfl ?_
    refine r_istore (L' := [(4, .int (nI 0)), (0, .ref x0), (1, .int (nI x1)), (2, .int (nI x2)), (3, .int (nI x3))]) dX10_step_73 (by decide) rfl ?_
    exact Blk.sub [1, 2, 3, 4, 0] rfl (V _ _ _ HOh5 HMh5)
set_option maxRecDepth 20000 in
theorem v_X10_step_75 {g : xG} {Q : mQ} {s : MV} {x0 : Nat} {x1 : Nat} {x2 : Nat} {x3 : Nat} {x4 : Nat} (V : ((x4 < 2 ^ 31 ∧ s.n < 2 ^ 31) ∧ ((s.n ≤ x4 → BlkM g M_X10_step x0 Q 56 [(0, .ref x0), (1, .int (nI x1)), (2, .int (nI x2)), (3, .int (nI (x3 + 1)))] [] s) ∧ (x4 < s.n → (CtM g M_X10_copy [.ref x0, .int (nI (75 + x4)), .int (nI 81)] x0 s (fun r s3 => r = none ∧ (CtM g M_X10_shareAbove [.ref x0, .int (nI x4), .int (nI x3)] x0 s3 (fun r s6 => ∃ v7 : Nat, r = some (.int (nI v7)) ∧ (v7 < 2 ^ 31 ∧ (CtM g M_X10_shareBelow [.ref x0, .int (nI x4)] x0 s6 (fun r s10 => ∃ v11 : Nat, r = some (.int (nI v11)) ∧ (CtM g M_X10_part [.ref x0, .int (nI 81), .long (lN v7), .int (nI v11)] x0 s10 (fun r s14 => r = none ∧ (CtM g M_X10_add [.ref x0, .int (nI (x2 + x3)), .int (nI 81)] x0 s14 (fun r s17 => r = none ∧ BlkM g M_X10_step x0 Q 75 [(0, .ref x0), (1, .int (nI x1)), (2, .int (nI x2)), (3, .int (nI x3)), (4, .int (nI (x4 + 1)))] [] s17))))))))))))))) : BlkM g M_X10_step x0 Q 75 [(0, .ref x0), (1, .int (nI x1)), (2, .int (nI x2)), (3, .int (nI x3)), (4, .int (nI x4))] [] s := by
  intro h0 h nx HO HM
  refine r_iload 4 dX10_step_75 rfl ?_
  refine r_aload_n 0 dX10_step_77 rfl rfl ?_
  refine r_getf (ci := 11) (kf := 1) (T := TX10) rfl in_X10 (by decide) wF_X10_75 dX10_step_78 (MAt.o_ HM) rfl ?_
  obtain ⟨c, V⟩ := V
  refine r_icmp_geN (tgt := 130) dX10_step_81 (by decide) c (fun c => ?_) (fun c => ?_)
  · have V := V.1 c
    refine r_iincN 3 (b := 1) (L' := [(3, .int (nI (x3 + 1))), (0, .ref x0), (1, .int (nI x1)), (2, .int (nI x2)), (4, .int (nI x4))]) dX10_step_130 rfl rfl (by decide) rfl ?_
    refine r_goto (tgt := 56) dX10_step_133 (by decide) ?_
    exact Blk.sub [1, 2, 3, 0] rfl (V _ _ _ HO HM)
  · have V := V.2 c
    refine r_aload_n 0 dX10_step_84 rfl rfl ?_
    refine r_bipush (v := (nI 75)) dX10_step_85 rfl ?_
    refine r_iload 4 dX10_step_87 rfl ?_
    refine r_iaddN dX10_step_89 ?_
    refine r_bipush (v := (nI 81)) dX10_step_90 rfl ?_
    refine r_callV (M2 := M_X10_copy) (ci := 11) (n := 2) (As := [.int (nI (75 + x4)), .int (nI 81)]) rfl (wl5 wM_X10_232 wi_X10_copy wS_X10_copy wI_StateSharesModel wc_X10_copy) (by decide +kernel) (by decide) rfl rfl (Nat.le_of_ble_eq_true rfl) dX10_step_92 (MAt.o_ HM) (by decide) (by decide) (Ct.imp (V _ _ HM) (fun r h1 n2 V => ?_))
    obtain ⟨rfl, Oh1, s3, HMh1, V⟩ := V
    have HOh1 := Off.tr HO Oh1
    obtain ⟨rfl, V⟩ := V
    show Blk g M_X10_step (pM x0 h0 nx Q) 95 [(0, .ref x0), (1, .int (nI x1)), (2, .int (nI x2)), (3, .int (nI x3)), (4, .int (nI x4))] [] h1 nx 0 0
    refine r_aload_n 0 dX10_step_95 rfl rfl ?_
    refine r_bipush (v := (nI 81)) dX10_step_96 rfl ?_
    refine r_aload_n 0 dX10_step_98 rfl rfl ?_
    refine r_iload 4 dX10_step_99 rfl ?_
    refine r_iload_n 3 dX10_step_101 rfl rfl ?_
    refine r_callV (M2 := M_X10_shareAbove) (ci := 11) (n := 2) (As := [.int (nI x4), .int (nI x3)]) rfl (wl5 wM_X10_205 wi_X10_shareAbove wS_X10_shareAbove wI_StateSharesModel wc_X10_shareAbove) (by decide +kernel) (by decide) rfl rfl (Nat.le_of_ble_eq_true rfl) dX10_step_102 (MAt.o_ HMh1) (by decide) (by decide) (Ct.imp (V _ _ HMh1) (fun r h4 n5 V => ?_))
    obtain ⟨rfl, Oh4, s6, HMh4, V⟩ := V
    have HOh4 := Off.tr HOh1 Oh4
    obtain ⟨v7, rfl, V⟩ := V
    show Blk g M_X10_step (pM x0 h0 nx Q) 105 [(0, .ref x0), (1, .int (nI x1)), (2, .int (nI x2)), (3, .int (nI x3)), (4, .int (nI x4))] [.int (nI v7), .int (nI 81), .ref x0] h4 nx 0 0
    obtain ⟨c, V⟩ := V
    refine r_i2lN dX10_step_105 c ?_
    refine r_aload_n 0 dX10_step_106 rfl rfl ?_
    refine r_iload 4 dX10_step_107 rfl ?_
    refine r_callV (M2 := M_X10_shareBelow) (ci := 11) (n := 1) (As := [.int (nI x4)]) rfl (wl5 wM_X10_208 wi_X10_shareBelow wS_X10_shareBelow wI_StateSharesModel wc_X10_shareBelow) (by decide +kernel) (by decide) rfl rfl (Nat.le_of_ble_eq_true rfl) dX10_step_109 (MAt.o_ HMh4) (by decide) (by decide) (Ct.imp (V _ _ HMh4) (fun r h8 n9 V => ?_))
    obtain ⟨rfl, Oh8, s10, HMh8, V⟩ := V
    have HOh8 := Off.tr HOh4 Oh8
    obtain ⟨v11, rfl, V⟩ := V
    show Blk g M_X10_step (pM x0 h0 nx Q) 112 [(0, .ref x0), (1, .int (nI x1)), (2, .int (nI x2)), (3, .int (nI x3)), (4, .int (nI x4))] [.int (nI v11), .long (lN v7), .int (nI 81), .ref x0] h8 nx 0 0
    refine r_callV (M2 := M_X10_part) (ci := 11) (n := 3) (As := [.int (nI 81), .long (lN v7), .int (nI v11)]) rfl (wl5 wM_X10_249 wi_X10_part wS_X10_part wI_StateSharesModel wc_X10_part) (by decide +kernel) (by decide) rfl rfl (Nat.le_of_ble_eq_true rfl) dX10_step_112 (MAt.o_ HMh8) (by decide) (by decide) (Ct.imp (V _ _ HMh8) (fun r h12 n13 V => ?_))
    obtain ⟨rfl, Oh12, s14, HMh12, V⟩ := V
    have HOh12 := Off.tr HOh8 Oh12
    obtain ⟨rfl, V⟩ := V
    show Blk g M_X10_step (pM x0 h0 nx Q) 115 [(0, .ref x0), (1, .int (nI x1)), (2, .int (nI x2)), (3, .int (nI x3)), (4, .int (nI x4))] [] h12 nx 0 0
    refine r_aload_n 0 dX10_step_115 rfl rfl ?_
    refine r_iload_n 2 dX10_step_116 rfl rfl ?_
    refine r_iload_n 3 dX10_step_117 rfl rfl ?_
    refine r_iaddN dX10_step_118 ?_
    refine r_bipush (v := (nI 81)) dX10_step_119 rfl ?_
    refine r_callV (M2 := M_X10_add) (ci := 11) (n := 2) (As := [.int (nI (x2 + x3)), .int (nI 81)]) rfl (wl5 wM_X10_256 wi_X10_add wS_X10_add wI_StateSharesModel wc_X10_add) (by decide +kernel) (by decide) rfl rfl (Nat.le_of_ble_eq_true rfl) dX10_step_121 (MAt.o_ HMh12) (by decide) (by decide) (Ct.imp (V _ _ HMh12) (fun r h15 n16 V => ?_))
    obtain ⟨rfl, Oh15, s17, HMh15, V⟩ := V
    have HOh15 := Off.tr HOh12 Oh15
    obtain ⟨rfl, V⟩ := V
    show Blk g M_X10_step (pM x0 h0 nx Q) 124 [(0, .ref x0), (1, .int (nI x1)), (2, .int (nI x2)), (3, .int (nI x3)), (4, .int (nI x4))] [] h15 nx 0 0
    refine r_iincN 4 (b := 1) (L' := [(4, .int (nI (x4 + 1))), (0, .ref x0), (1, .int (nI x1)), (2, .int (nI x2)), (3, .int (nI x3))]) dX10_step_124 rfl rfl (by decide) rfl ?_
    refine r_goto (tgt := 75) dX10_step_127 (by decide) ?_
    exact Blk.sub [1, 2, 3, 4, 0] rfl (V _ _ _ HOh15 HMh15)
set_option maxRecDepth 20000 in
theorem v_X10_step_168 {g : xG} {Q : mQ} {s : MV} {x0 : Nat} {x1 : Nat} {x2 : Nat} {x3 : Nat} (V : ((x3 < 2 ^ 31 ∧ s.n < 2 ^ 31) ∧ ((s.n ≤ x3 → (Q none s)) ∧ (x3 < s.n → ((x1 + 1) < 12 ∧ ((s.tl (x1 + 1)) < 2 ^ 31 ∧ ((¬ (s.tl (x1 + 1)) = 0 → ((x1 + 1) < 12 ∧ 1 ≤ 1 ∧ BlkM g M_X10_step x0 Q 168 [(0, .ref x0), (1, .int (nI x1)), (2, .int (nI x2)), (3, .int (nI (x3 + 1)))] [] (MV.u_tl s (va_up s.tl (x1 + 1) 1)))) ∧ ((s.tl (x1 + 1)) = 0 → (CtM g M_X10_isLong [.ref x0, .int (nI (x2 + x3))] x0 s (fun r s4 => ∃ v5 : Nat, r = some (.int (nI v5)) ∧ (v5 < 2 ^ 31 ∧ ((v5 = 0 → ((x1 + 1) < 12 ∧ 0 ≤ 1 ∧ BlkM g M_X10_step x0 Q 168 [(0, .ref x0), (1, .int (nI x1)), (2, .int (nI x2)), (3, .int (nI (x3 + 1)))] [] (MV.u_tl s4 (va_up s4.tl (x1 + 1) 0)))) ∧ (¬ v5 = 0 → ((x1 + 1) < 12 ∧ 1 ≤ 1 ∧ BlkM g M_X10_step x0 Q 168 [(0, .ref x0), (1, .int (nI x1)), (2, .int (nI x2)), (3, .int (nI (x3 + 1)))] [] (MV.u_tl s4 (va_up s4.tl (x1 + 1) 1)))))))))))))))) : BlkM g M_X10_step x0 Q 168 [(0, .ref x0), (1, .int (nI x1)), (2, .int (nI x2)), (3, .int (nI x3))] [] s := by
  intro h0 h nx HO HM
  refine r_iload_n 3 dX10_step_168 rfl rfl ?_
  refine r_aload_n 0 dX10_step_169 rfl rfl ?_
  refine r_getf (ci := 11) (kf := 1) (T := TX10) rfl in_X10 (by decide) wF_X10_75 dX10_step_170 (MAt.o_ HM) rfl ?_
  obtain ⟨c, V⟩ := V
  refine r_icmp_geN (tgt := 216) dX10_step_173 (by decide) c (fun c => ?_) (fun c => ?_)
  · have V := V.1 c
    exact r_vret dX10_step_216 rfl (by decide) (by decide) ⟨rfl, HO, _, HM, V⟩
  · have V := V.2 c
    refine r_aload_n 0 dX10_step_176 rfl rfl ?_
    refine r_getf (ci := 11) (kf := 30) (T := TX10) rfl in_X10 (by decide) wF_X10_71 dX10_step_177 (MAt.o_ HM) rfl ?_
    refine r_iload_n 1 dX10_step_180 rfl rfl ?_
    refine r_iconst (v := (nI 1)) dX10_step_181 rfl ?_
    refine r_iaddN dX10_step_182 ?_
    refine r_aload_n 0 dX10_step_183 rfl rfl ?_
    refine r_getf (ci := 11) (kf := 30) (T := TX10) rfl in_X10 (by decide) wF_X10_71 dX10_step_184 (MAt.o_ HM) rfl ?_
    refine r_iload_n 1 dX10_step_187 rfl rfl ?_
    refine r_iconst (v := (nI 1)) dX10_step_188 rfl ?_
    refine r_iaddN dX10_step_189 ?_
    obtain ⟨c, V⟩ := V
    refine r_zald dX10_step_190 (MAt.g_tl HM) rfl c (by decide) ?_
    show Blk g M_X10_step (pM x0 h0 nx Q) 191 [(0, .ref x0), (1, .int (nI x1)), (2, .int (nI x2)), (3, .int (nI x3))] [.int (nI (s.tl (x1 + 1))), .int (nI (x1 + 1)), .ref (x0 + 21)] h nx 0 0
    obtain ⟨c, V⟩ := V
    refine r_if_neN (tgt := 204) dX10_step_191 (by decide) c (fun c => ?_) (fun c => ?_)
    · have V := V.1 c
      refine r_iconst (v := (nI 1)) dX10_step_204 rfl ?_
      refine r_goto (tgt := 209) dX10_step_205 (by decide) ?_
      obtain ⟨c, c5, V⟩ := V
      refine r_zastN dX10_step_209 (MAt.g_tl HM) c (by decide) c5 ?_
      obtain ⟨hu1, eu1, HMu1, HOu1⟩ := mo_tl HM HO (va_up s.tl (x1 + 1) 1)
      refine Blk.eqs ?_ rfl rfl eu1
      replace HMu1 : MAt hu1 x0 (MV.u_tl s (va_up s.tl (x1 + 1) 1)) := HMu1
      show Blk g M_X10_step (pM x0 h0 nx Q) 210 [(0, .ref x0), (1, .int (nI x1)), (2, .int (nI x2)), (3, .int (nI x3))] [] hu1 nx 0 0
      refine r_iincN 3 (b := 1) (L' := [(3, .int (nI (x3 + 1))), (0, .ref x0), (1, .int (nI x1)), (2, .int (nI x2))]) dX10_step_210 rfl rfl (by decide) rfl ?_
      refine r_goto (tgt := 168) dX10_step_213 (by decide) ?_
      exact Blk.sub [1, 2, 3, 0] rfl (V _ _ _ HOu1 HMu1)
    · have V := V.2 c
      refine r_aload_n 0 dX10_step_194 rfl rfl ?_
      refine r_iload_n 2 dX10_step_195 rfl rfl ?_
      refine r_iload_n 3 dX10_step_196 rfl rfl ?_
      refine r_iaddN dX10_step_197 ?_
      refine r_callV (M2 := M_X10_isLong) (ci := 11) (n := 1) (As := [.int (nI (x2 + x3))]) rfl (wl5 wM_X10_263 wi_X10_isLong wS_X10_isLong wI_StateSharesModel wc_X10_isLong) (by decide +kernel) (by decide) rfl rfl (Nat.le_of_ble_eq_true rfl) dX10_step_198 (MAt.o_ HM) (by decide) (by decide) (Ct.imp (V _ _ HM) (fun r h2 n3 V => ?_))
      obtain ⟨rfl, Oh2, s4, HMh2, V⟩ := V
      have HOh2 := Off.tr HO Oh2
      obtain ⟨v5, rfl, V⟩ := V
      show Blk g M_X10_step (pM x0 h0 nx Q) 201 [(0, .ref x0), (1, .int (nI x1)), (2, .int (nI x2)), (3, .int (nI x3))] [.int (nI v5), .int (nI (x1 + 1)), .ref (x0 + 21)] h2 nx 0 0
      obtain ⟨c, V⟩ := V
      refine r_if_eqN (tgt := 208) dX10_step_201 (by decide) c (fun c => ?_) (fun c => ?_)
      · have V := V.1 c
        refine r_iconst (v := (nI 0)) dX10_step_208 rfl ?_
        obtain ⟨c, c5, V⟩ := V
        refine r_zastN dX10_step_209 (MAt.g_tl HMh2) c (by decide) c5 ?_
        obtain ⟨hu6, eu6, HMu6, HOu6⟩ := mo_tl HMh2 HOh2 (va_up s4.tl (x1 + 1) 0)
        refine Blk.eqs ?_ rfl rfl eu6
        replace HMu6 : MAt hu6 x0 (MV.u_tl s4 (va_up s4.tl (x1 + 1) 0)) := HMu6
        show Blk g M_X10_step (pM x0 h0 nx Q) 210 [(0, .ref x0), (1, .int (nI x1)), (2, .int (nI x2)), (3, .int (nI x3))] [] hu6 nx 0 0
        refine r_iincN 3 (b := 1) (L' := [(3, .int (nI (x3 + 1))), (0, .ref x0), (1, .int (nI x1)), (2, .int (nI x2))]) dX10_step_210 rfl rfl (by decide) rfl ?_
        refine r_goto (tgt := 168) dX10_step_213 (by decide) ?_
        exact Blk.sub [1, 2, 3, 0] rfl (V _ _ _ HOu6 HMu6)
      · have V := V.2 c
        refine r_iconst (v := (nI 1)) dX10_step_204 rfl ?_
        refine r_goto (tgt := 209) dX10_step_205 (by decide) ?_
        obtain ⟨c, c5, V⟩ := V
        refine r_zastN dX10_step_209 (MAt.g_tl HMh2) c (by decide) c5 ?_
        obtain ⟨hu7, eu7, HMu7, HOu7⟩ := mo_tl HMh2 HOh2 (va_up s4.tl (x1 + 1) 1)
        refine Blk.eqs ?_ rfl rfl eu7
        replace HMu7 : MAt hu7 x0 (MV.u_tl s4 (va_up s4.tl (x1 + 1) 1)) := HMu7
        show Blk g M_X10_step (pM x0 h0 nx Q) 210 [(0, .ref x0), (1, .int (nI x1)), (2, .int (nI x2)), (3, .int (nI x3))] [] hu7 nx 0 0
        refine r_iincN 3 (b := 1) (L' := [(3, .int (nI (x3 + 1))), (0, .ref x0), (1, .int (nI x1)), (2, .int (nI x2))]) dX10_step_210 rfl rfl (by decide) rfl ?_
        refine r_goto (tgt := 168) dX10_step_213 (by decide) ?_
        exact Blk.sub [1, 2, 3, 0] rfl (V _ _ _ HOu7 HMu7)
set_option maxRecDepth 20000 in
theorem v_X10_foretell_0 {g : xG} {Q : mQ} {s : MV} {x0 : Nat} {x1 : Nat} (V : (s.fr < 2 ^ 31 ∧ ((¬ s.fr = 0 → (CtM g M_X10_countAll [.ref x0] x0 s (fun r s3 => r = none ∧ BlkM g M_X10_foretell x0 Q 111 [(0, .ref x0), (1, .int (nI x1))] [] s3))) ∧ (s.fr = 0 → (CtM g M_X10_countAll [.ref x0] x0 s (fun r s6 => r = none ∧ BlkM g M_X10_foretell x0 Q 13 [(0, .ref x0), (1, .int (nI x1)), (2, .int (nI 0))] [] s6)))))) : BlkM g M_X10_foretell x0 Q 0 [(0, .ref x0), (1, .int (nI x1))] [] s := by
  intro h0 h nx HO HM
  refine r_aload_n 0 dX10_foretell_0 rfl rfl ?_
  refine r_getf (ci := 11) (kf := 31) (T := TX10) rfl in_X10 (by decide) wF_X10_116 dX10_foretell_1 (MAt.o_ HM) rfl ?_
  obtain ⟨c, V⟩ := V
  refine r_if_neN (tgt := 107) dX10_foretell_4 (by decide) c (fun c => ?_) (fun c => ?_)
  · have V := V.1 c
    refine r_aload_n 0 dX10_foretell_107 rfl rfl ?_
    refine r_callV (M2 := M_X10_countAll) (ci := 11) (n := 0) (As := []) rfl (wl5 wM_X10_194 wi_X10_countAll wS_X10_countAll wI_StateSharesModel wc_X10_countAll) (by decide +kernel) (by decide) rfl rfl (Nat.le_of_ble_eq_true rfl) dX10_foretell_108 (MAt.o_ HM) (by decide) (by decide) (Ct.imp (V _ _ HM) (fun r h1 n2 V => ?_))
    obtain ⟨rfl, Oh1, s3, HMh1, V⟩ := V
    have HOh1 := Off.tr HO Oh1
    obtain ⟨rfl, V⟩ := V
    show Blk g M_X10_foretell (pM x0 h0 nx Q) 111 [(0, .ref x0), (1, .int (nI x1))] [] h1 nx 0 0
    exact Blk.sub [0, 1] rfl (V _ _ _ HOh1 HMh1)
  · have V := V.2 c
    refine r_aload_n 0 dX10_foretell_7 rfl rfl ?_
    refine r_callV (M2 := M_X10_countAll) (ci := 11) (n := 0) (As := []) rfl (wl5 wM_X10_194 wi_X10_countAll wS_X10_countAll wI_StateSharesModel wc_X10_countAll) (by decide +kernel) (by decide) rfl rfl (Nat.le_of_ble_eq_true rfl) dX10_foretell_8 (MAt.o_ HM) (by decide) (by decide) (Ct.imp (V _ _ HM) (fun r h4 n5 V => ?_))
    obtain ⟨rfl, Oh4, s6, HMh4, V⟩ := V
    have HOh4 := Off.tr HO Oh4
    obtain ⟨rfl, V⟩ := V
    show Blk g M_X10_foretell (pM x0 h0 nx Q) 11 [(0, .ref x0), (1, .int (nI x1))] [] h4 nx 0 0
    refine r_iconst (v := (nI 0)) dX10_foretell_11 rfl ?_
    refine r_istore_n (L' := [(2, .int (nI 0)), (0, .ref x0), (1, .int (nI x1))]) dX10_foretell_12 rfl (by decide) rfl ?_
    exact Blk.sub [1, 2, 0] rfl (V _ _ _ HOh4 HMh4)
set_option maxRecDepth 20000 in
theorem v_X10_foretell_13 {g : xG} {Q : mQ} {s : MV} {x0 : Nat} {x1 : Nat} {x2 : Nat} (V : ((x2 < 2 ^ 31 ∧ s.n < 2 ^ 31) ∧ ((s.n ≤ x2 → (0 < 12 ∧ 0 ≤ 1 ∧ (CtM g M_X10_countAll [.ref x0] x0 (MV.u_fr (MV.u_up (MV.u_tl s (va_up s.tl 0 0)) 0) 1) (fun r s6 => r = none ∧ BlkM g M_X10_foretell x0 Q 111 [(0, .ref x0), (1, .int (nI x1))] [] s6)))) ∧ (x2 < s.n → (s.st < 2 ^ 31 ∧ ((s.st = 0 → (x2 < 2 ^ 31 ∧ ((¬ x2 = 0 → (CtM g M_X10_set [.ref x0, .int (nI x2), .long (lN 0)] x0 s (fun r s9 => r = none ∧ (s9.st < 2 ^ 31 ∧ ((s9.st = 0 → BlkM g M_X10_foretell x0 Q 13 [(0, .ref x0), (1, .int (nI x1)), (2, .int (nI (x2 + 1)))] [] s9) ∧ (¬ s9.st = 0 → (x2 < 6 ∧ ((s9.sa x2) < 2 ^ 31 ∧ (x2 < 6 ∧ ((s9.sb x2) < 2 ^ 31 ∧ ((¬ (s9.sb x2) = 0 → (x2 < 6 ∧ (CtM g M_X10_part [.ref x0, .int (nI x2), .long (lN (s9.sa x2)), .int (nI (s9.sb x2))] x0 s9 (fun r s12 => r = none ∧ BlkM g M_X10_foretell x0 Q 13 [(0, .ref x0), (1, .int (nI x1)), (2, .int (nI (x2 + 1)))] [] s12)))) ∧ ((s9.sb x2) = 0 → (CtM g M_X10_part [.ref x0, .int (nI x2), .long (lN (s9.sa x2)), .int (nI 1)] x0 s9 (fun r s15 => r = none ∧ BlkM g M_X10_foretell x0 Q 13 [(0, .ref x0), (1, .int (nI x1)), (2, .int (nI (x2 + 1)))] [] s15)))))))))))))) ∧ (x2 = 0 → (CtM g M_X10_set [.ref x0, .int (nI x2), .long (lN 1)] x0 s (fun r s18 => r = none ∧ (s18.st < 2 ^ 31 ∧ ((s18.st = 0 → BlkM g M_X10_foretell x0 Q 13 [(0, .ref x0), (1, .int (nI x1)), (2, .int (nI (x2 + 1)))] [] s18) ∧ (¬ s18.st = 0 → (x2 < 6 ∧ ((s18.sa x2) < 2 ^ 31 ∧ (x2 < 6 ∧ ((s18.sb x2) < 2 ^ 31 ∧ ((¬ (s18.sb x2) = 0 → (x2 < 6 ∧ (CtM g M_X10_part [.ref x0, .int (nI x2), .long (lN (s18.sa x2)), .int (nI (s18.sb x2))] x0 s18 (fun r s21 => r = none ∧ BlkM g M_X10_foretell x0 Q 13 [(0, .ref x0), (1, .int (nI x1)), (2, .int (nI (x2 + 1)))] [] s21)))) ∧ ((s18.sb x2) = 0 → (CtM g M_X10_part [.ref x0, .int (nI x2), .long (lN (s18.sa x2)), .int (nI 1)] x0 s18 (fun r s24 => r = none ∧ BlkM g M_X10_foretell x0 Q 13 [(0, .ref x0), (1, .int (nI x1)), (2, .int (nI (x2 + 1)))] [] s24))))))))))))))))) ∧ (¬ s.st = 0 → (CtM g M_X10_set [.ref x0, .int (nI x2), .long (lN 1)] x0 s (fun r s27 => r = none ∧ (s27.st < 2 ^ 31 ∧ ((s27.st = 0 → BlkM g M_X10_foretell x0 Q 13 [(0, .ref x0), (1, .int (nI x1)), (2, .int (nI (x2 + 1)))] [] s27) ∧ (¬ s27.st = 0 → (x2 < 6 ∧ ((s27.sa x2) < 2 ^ 31 ∧ (x2 < 6 ∧ ((s27.sb x2) < 2 ^ 31 ∧ ((¬ (s27.sb x2) = 0 → (x2 < 6 ∧ (CtM g M_X10_part [.ref x0, .int (nI x2), .long (lN (s27.sa x2)), .int (nI (s27.sb x2))] x0 s27 (fun r s30 => r = none ∧ BlkM g M_X10_foretell x0 Q 13 [(0, .ref x0), (1, .int (nI x1)), (2, .int (nI (x2 + 1)))] [] s30)))) ∧ ((s27.sb x2) = 0 → (CtM g M_X10_part [.ref x0, .int (nI x2), .long (lN (s27.sa x2)), .int (nI 1)] x0 s27 (fun r s33 => r = none ∧ BlkM g M_X10_foretell x0 Q 13 [(0, .ref x0), (1, .int (nI x1)), (2, .int (nI (x2 + 1)))] [] s33)))))))))))))))))))) : BlkM g M_X10_foretell x0 Q 13 [(0, .ref x0), (1, .int (nI x1)), (2, .int (nI x2))] [] s := by
  intro h0 h nx HO HM
  refine r_iload_n 2 dX10_foretell_13 rfl rfl ?_
  refine r_aload_n 0 dX10_foretell_14 rfl rfl ?_
  refine r_getf (ci := 11) (kf := 1) (T := TX10) rfl in_X10 (by decide) wF_X10_75 dX10_foretell_15 (MAt.o_ HM) rfl ?_
  obtain ⟨c, V⟩ := V
  refine r_icmp_geN (tgt := 90) dX10_foretell_18 (by decide) c (fun c => ?_) (fun c => ?_)
  · have V := V.1 c
    refine r_aload_n 0 dX10_foretell_90 rfl rfl ?_
    refine r_getf (ci := 11) (kf := 30) (T := TX10) rfl in_X10 (by decide) wF_X10_71 dX10_foretell_91 (MAt.o_ HM) rfl ?_
    refine r_iconst (v := (nI 0)) dX10_foretell_94 rfl ?_
    refine r_iconst (v := (nI 0)) dX10_foretell_95 rfl ?_
    obtain ⟨c, c5, V⟩ := V
    refine r_zastN dX10_foretell_96 (MAt.g_tl HM) c (by decide) c5 ?_
    obtain ⟨hu1, eu1, HMu1, HOu1⟩ := mo_tl HM HO (va_up s.tl 0 0)
    refine Blk.eqs ?_ rfl rfl eu1
    replace HMu1 : MAt hu1 x0 (MV.u_tl s (va_up s.tl 0 0)) := HMu1
    show Blk g M_X10_foretell (pM x0 h0 nx Q) 97 [(0, .ref x0), (1, .int (nI x1)), (2, .int (nI x2))] [] hu1 nx 0 0
    refine r_aload_n 0 dX10_foretell_97 rfl rfl ?_
    refine r_iconst (v := (nI 0)) dX10_foretell_98 rfl ?_
    refine r_putf (ci := 11) (kf := 32) (T := TX10) rfl in_X10 tyX10_ok nmX10 (by decide) wF_X10_269 rfl (tyX10_ok 32 (by decide)) dX10_foretell_99 (MAt.o_ HMu1) (Nat.le_of_ble_eq_true rfl) rfl rfl ?_
    obtain ⟨hu2, eu2, HMu2, HOu2⟩ := mo_o HMu1 HOu1 s.cd s.n s.sz s.wn s.at_ s.wr s.ru s.dn s.lm s.st s.fr 0
    refine Blk.eqs ?_ rfl rfl eu2
    replace HMu2 : MAt hu2 x0 (MV.u_up (MV.u_tl s (va_up s.tl 0 0)) 0) := HMu2
    show Blk g M_X10_foretell (pM x0 h0 nx Q) 102 [(0, .ref x0), (1, .int (nI x1)), (2, .int (nI x2))] [] hu2 nx 0 0
    refine r_aload_n 0 dX10_foretell_102 rfl rfl ?_
    refine r_iconst (v := (nI 1)) dX10_foretell_103 rfl ?_
    refine r_putf (ci := 11) (kf := 31) (T := TX10) rfl in_X10 tyX10_ok nmX10 (by decide) wF_X10_116 rfl (tyX10_ok 31 (by decide)) dX10_foretell_104 (MAt.o_ HMu2) (Nat.le_of_ble_eq_true rfl) rfl rfl ?_
    obtain ⟨hu3, eu3, HMu3, HOu3⟩ := mo_o HMu2 HOu2 s.cd s.n s.sz s.wn s.at_ s.wr s.ru s.dn s.lm s.st 1 0
    refine Blk.eqs ?_ rfl rfl eu3
    replace HMu3 : MAt hu3 x0 (MV.u_fr (MV.u_up (MV.u_tl s (va_up s.tl 0 0)) 0) 1) := HMu3
    show Blk g M_X10_foretell (pM x0 h0 nx Q) 107 [(0, .ref x0), (1, .int (nI x1)), (2, .int (nI x2))] [] hu3 nx 0 0
    refine r_aload_n 0 dX10_foretell_107 rfl rfl ?_
    refine r_callV (M2 := M_X10_countAll) (ci := 11) (n := 0) (As := []) rfl (wl5 wM_X10_194 wi_X10_countAll wS_X10_countAll wI_StateSharesModel wc_X10_countAll) (by decide +kernel) (by decide) rfl rfl (Nat.le_of_ble_eq_true rfl) dX10_foretell_108 (MAt.o_ HMu3) (by decide) (by decide) (Ct.imp (V _ _ HMu3) (fun r h4 n5 V => ?_))
    obtain ⟨rfl, Oh4, s6, HMh4, V⟩ := V
    have HOh4 := Off.tr HOu3 Oh4
    obtain ⟨rfl, V⟩ := V
    show Blk g M_X10_foretell (pM x0 h0 nx Q) 111 [(0, .ref x0), (1, .int (nI x1)), (2, .int (nI x2))] [] h4 nx 0 0
    exact Blk.sub [0, 1] rfl (V _ _ _ HOh4 HMh4)
  · have V := V.2 c
    refine r_aload_n 0 dX10_foretell_21 rfl rfl ?_
    refine r_iload_n 2 dX10_foretell_22 rfl rfl ?_
    refine r_aload_n 0 dX10_foretell_23 rfl rfl ?_
    refine r_getf (ci := 11) (kf := 18) (T := TX10) rfl in_X10 (by decide) wF_X10_266 dX10_foretell_24 (MAt.o_ HM) rfl ?_
    obtain ⟨c, V⟩ := V
    refine r_if_eqN (tgt := 34) dX10_foretell_27 (by decide) c (fun c => ?_) (fun c => ?_)
    · have V := V.1 c
      refine r_iload_n 2 dX10_foretell_34 rfl rfl ?_
      obtain ⟨c, V⟩ := V
      refine r_if_neN (tgt := 42) dX10_foretell_35 (by decide) c (fun c => ?_) (fun c => ?_)
      · have V := V.1 c
        refine r_lconst (v := (lN 0)) dX10_foretell_42 rfl ?_
        refine r_callV (M2 := M_X10_set) (ci := 11) (n := 2) (As := [.int (nI x2), .long (lN 0)]) rfl (wl5 wM_X10_82 wi_X10_set wS_X10_set wI_StateSharesModel wc_X10_set) (by decide +kernel) (by decide) rfl rfl (Nat.le_of_ble_eq_true rfl) dX10_foretell_43 (MAt.o_ HM) (by decide) (by decide) (Ct.imp (V _ _ HM) (fun r h7 n8 V => ?_))
        obtain ⟨rfl, Oh7, s9, HMh7, V⟩ := V
        have HOh7 := Off.tr HO Oh7
        obtain ⟨rfl, V⟩ := V
        show Blk g M_X10_foretell (pM x0 h0 nx Q) 46 [(0, .ref x0), (1, .int (nI x1)), (2, .int (nI x2))] [] h7 nx 0 0
        refine r_aload_n 0 dX10_foretell_46 rfl rfl ?_
        refine r_getf (ci := 11) (kf := 18) (T := TX10) rfl in_X10 (by decide) wF_X10_266 dX10_foretell_47 (MAt.o_ HMh7) rfl ?_
        obtain ⟨c, V⟩ := V
        refine r_if_eqN (tgt := 84) dX10_foretell_50 (by decide) c (fun c => ?_) (fun c => ?_)
        · have V := V.1 c
          refine r_iincN 2 (b := 1) (L' := [(2, .int (nI (x2 + 1))), (0, .ref x0), (1, .int (nI x1))]) dX10_foretell_84 rfl rfl (by decide) rfl ?_
          refine r_goto (tgt := 13) dX10_foretell_87 (by decide) ?_
          exact Blk.sub [1, 2, 0] rfl (V _ _ _ HOh7 HMh7)
        · have V := V.2 c
          refine r_aload_n 0 dX10_foretell_53 rfl rfl ?_
          refine r_iload_n 2 dX10_foretell_54 rfl rfl ?_
          refine r_aload_n 0 dX10_foretell_55 rfl rfl ?_
          refine r_getf (ci := 11) (kf := 19) (T := TX10) rfl in_X10 (by decide) wF_X10_37 dX10_foretell_56 (MAt.o_ HMh7) rfl ?_
          refine r_iload_n 2 dX10_foretell_59 rfl rfl ?_
          obtain ⟨c, V⟩ := V
          refine r_iald dX10_foretell_60 (MAt.g_sa HMh7) rfl c (by decide) ?_
          show Blk g M_X10_foretell (pM x0 h0 nx Q) 61 [(0, .ref x0), (1, .int (nI x1)), (2, .int (nI x2))] [.int (nI (s9.sa x2)), .int (nI x2), .ref x0] h7 nx 0 0
          obtain ⟨c, V⟩ := V
          refine r_i2lN dX10_foretell_61 c ?_
          refine r_aload_n 0 dX10_foretell_62 rfl rfl ?_
          refine r_getf (ci := 11) (kf := 20) (T := TX10) rfl in_X10 (by decide) wF_X10_40 dX10_foretell_63 (MAt.o_ HMh7) rfl ?_
          refine r_iload_n 2 dX10_foretell_66 rfl rfl ?_
          obtain ⟨c, V⟩ := V
          refine r_iald dX10_foretell_67 (MAt.g_sb HMh7) rfl c (by decide) ?_
          show Blk g M_X10_foretell (pM x0 h0 nx Q) 68 [(0, .ref x0), (1, .int (nI x1)), (2, .int (nI x2))] [.int (nI (s9.sb x2)), .long (lN (s9.sa x2)), .int (nI x2), .ref x0] h7 nx 0 0
          obtain ⟨c, V⟩ := V
          refine r_if_neN (tgt := 75) dX10_foretell_68 (by decide) c (fun c => ?_) (fun c => ?_)
          · have V := V.1 c
            refine r_aload_n 0 dX10_foretell_75 rfl rfl ?_
            refine r_getf (ci := 11) (kf := 20) (T := TX10) rfl in_X10 (by decide) wF_X10_40 dX10_foretell_76 (MAt.o_ HMh7) rfl ?_
            refine r_iload_n 2 dX10_foretell_79 rfl rfl ?_
            obtain ⟨c, V⟩ := V
            refine r_iald dX10_foretell_80 (MAt.g_sb HMh7) rfl c (by decide) ?_
            show Blk g M_X10_foretell (pM x0 h0 nx Q) 81 [(0, .ref x0), (1, .int (nI x1)), (2, .int (nI x2))] [.int (nI (s9.sb x2)), .long (lN (s9.sa x2)), .int (nI x2), .ref x0] h7 nx 0 0
            refine r_callV (M2 := M_X10_part) (ci := 11) (n := 3) (As := [.int (nI x2), .long (lN (s9.sa x2)), .int (nI (s9.sb x2))]) rfl (wl5 wM_X10_249 wi_X10_part wS_X10_part wI_StateSharesModel wc_X10_part) (by decide +kernel) (by decide) rfl rfl (Nat.le_of_ble_eq_true rfl) dX10_foretell_81 (MAt.o_ HMh7) (by decide) (by decide) (Ct.imp (V _ _ HMh7) (fun r h10 n11 V => ?_))
            obtain ⟨rfl, Oh10, s12, HMh10, V⟩ := V
            have HOh10 := Off.tr HOh7 Oh10
            obtain ⟨rfl, V⟩ := V
            show Blk g M_X10_foretell (pM x0 h0 nx Q) 84 [(0, .ref x0), (1, .int (nI x1)), (2, .int (nI x2))] [] h10 nx 0 0
            refine r_iincN 2 (b := 1) (L' := [(2, .int (nI (x2 + 1))), (0, .ref x0), (1, .int (nI x1))]) dX10_foretell_84 rfl rfl (by decide) rfl ?_
            refine r_goto (tgt := 13) dX10_foretell_87 (by decide) ?_
            exact Blk.sub [1, 2, 0] rfl (V _ _ _ HOh10 HMh10)
          · have V := V.2 c
            refine r_iconst (v := (nI 1)) dX10_foretell_71 rfl ?_
            refine r_goto (tgt := 81) dX10_foretell_72 (by decide) ?_
            refine r_callV (M2 := M_X10_part) (ci := 11) (n := 3) (As := [.int (nI x2), .long (lN (s9.sa x2)), .int (nI 1)]) rfl (wl5 wM_X10_249 wi_X10_part wS_X10_part wI_StateSharesModel wc_X10_part) (by decide +kernel) (by decide) rfl rfl (Nat.le_of_ble_eq_true rfl) dX10_foretell_81 (MAt.o_ HMh7) (by decide) (by decide) (Ct.imp (V _ _ HMh7) (fun r h13 n14 V => ?_))
            obtain ⟨rfl, Oh13, s15, HMh13, V⟩ := V
            have HOh13 := Off.tr HOh7 Oh13
            obtain ⟨rfl, V⟩ := V
            show Blk g M_X10_foretell (pM x0 h0 nx Q) 84 [(0, .ref x0), (1, .int (nI x1)), (2, .int (nI x2))] [] h13 nx 0 0
            refine r_iincN 2 (b := 1) (L' := [(2, .int (nI (x2 + 1))), (0, .ref x0), (1, .int (nI x1))]) dX10_foretell_84 rfl rfl (by decide) rfl ?_
            refine r_goto (tgt := 13) dX10_foretell_87 (by decide) ?_
            exact Blk.sub [1, 2, 0] rfl (V _ _ _ HOh13 HMh13)
      · have V := V.2 c
        refine r_lconst (v := (lN 1)) dX10_foretell_38 rfl ?_
        refine r_goto (tgt := 43) dX10_foretell_39 (by decide) ?_
        refine r_callV (M2 := M_X10_set) (ci := 11) (n := 2) (As := [.int (nI x2), .long (lN 1)]) rfl (wl5 wM_X10_82 wi_X10_set wS_X10_set wI_StateSharesModel wc_X10_set) (by decide +kernel) (by decide) rfl rfl (Nat.le_of_ble_eq_true rfl) dX10_foretell_43 (MAt.o_ HM) (by decide) (by decide) (Ct.imp (V _ _ HM) (fun r h16 n17 V => ?_))
        obtain ⟨rfl, Oh16, s18, HMh16, V⟩ := V
        have HOh16 := Off.tr HO Oh16
        obtain ⟨rfl, V⟩ := V
        show Blk g M_X10_foretell (pM x0 h0 nx Q) 46 [(0, .ref x0), (1, .int (nI x1)), (2, .int (nI x2))] [] h16 nx 0 0
        refine r_aload_n 0 dX10_foretell_46 rfl rfl ?_
        refine r_getf (ci := 11) (kf := 18) (T := TX10) rfl in_X10 (by decide) wF_X10_266 dX10_foretell_47 (MAt.o_ HMh16) rfl ?_
        obtain ⟨c, V⟩ := V
        refine r_if_eqN (tgt := 84) dX10_foretell_50 (by decide) c (fun c => ?_) (fun c => ?_)
        · have V := V.1 c
          refine r_iincN 2 (b := 1) (L' := [(2, .int (nI (x2 + 1))), (0, .ref x0), (1, .int (nI x1))]) dX10_foretell_84 rfl rfl (by decide) rfl ?_
          refine r_goto (tgt := 13) dX10_foretell_87 (by decide) ?_
          exact Blk.sub [1, 2, 0] rfl (V _ _ _ HOh16 HMh16)
        · have V := V.2 c
          refine r_aload_n 0 dX10_foretell_53 rfl rfl ?_
          refine r_iload_n 2 dX10_foretell_54 rfl rfl ?_
          refine r_aload_n 0 dX10_foretell_55 rfl rfl ?_
          refine r_getf (ci := 11) (kf := 19) (T := TX10) rfl in_X10 (by decide) wF_X10_37 dX10_foretell_56 (MAt.o_ HMh16) rfl ?_
          refine r_iload_n 2 dX10_foretell_59 rfl rfl ?_
          obtain ⟨c, V⟩ := V
          refine r_iald dX10_foretell_60 (MAt.g_sa HMh16) rfl c (by decide) ?_
          show Blk g M_X10_foretell (pM x0 h0 nx Q) 61 [(0, .ref x0), (1, .int (nI x1)), (2, .int (nI x2))] [.int (nI (s18.sa x2)), .int (nI x2), .ref x0] h16 nx 0 0
          obtain ⟨c, V⟩ := V
          refine r_i2lN dX10_foretell_61 c ?_
          refine r_aload_n 0 dX10_foretell_62 rfl rfl ?_
          refine r_getf (ci := 11) (kf := 20) (T := TX10) rfl in_X10 (by decide) wF_X10_40 dX10_foretell_63 (MAt.o_ HMh16) rfl ?_
          refine r_iload_n 2 dX10_foretell_66 rfl rfl ?_
          obtain ⟨c, V⟩ := V
          refine r_iald dX10_foretell_67 (MAt.g_sb HMh16) rfl c (by decide) ?_
          show Blk g M_X10_foretell (pM x0 h0 nx Q) 68 [(0, .ref x0), (1, .int (nI x1)), (2, .int (nI x2))] [.int (nI (s18.sb x2)), .long (lN (s18.sa x2)), .int (nI x2), .ref x0] h16 nx 0 0
          obtain ⟨c, V⟩ := V
          refine r_if_neN (tgt := 75) dX10_foretell_68 (by decide) c (fun c => ?_) (fun c => ?_)
          · have V := V.1 c
            refine r_aload_n 0 dX10_foretell_75 rfl rfl ?_
            refine r_getf (ci := 11) (kf := 20) (T := TX10) rfl in_X10 (by decide) wF_X10_40 dX10_foretell_76 (MAt.o_ HMh16) rfl ?_
            refine r_iload_n 2 dX10_foretell_79 rfl rfl ?_
            obtain ⟨c, V⟩ := V
            refine r_iald dX10_foretell_80 (MAt.g_sb HMh16) rfl c (by decide) ?_
            show Blk g M_X10_foretell (pM x0 h0 nx Q) 81 [(0, .ref x0), (1, .int (nI x1)), (2, .int (nI x2))] [.int (nI (s18.sb x2)), .long (lN (s18.sa x2)), .int (nI x2), .ref x0] h16 nx 0 0
            refine r_callV (M2 := M_X10_part) (ci := 11) (n := 3) (As := [.int (nI x2), .long (lN (s18.sa x2)), .int (nI (s18.sb x2))]) rfl (wl5 wM_X10_249 wi_X10_part wS_X10_part wI_StateSharesModel wc_X10_part) (by decide +kernel) (by decide) rfl rfl (Nat.le_of_ble_eq_true rfl) dX10_foretell_81 (MAt.o_ HMh16) (by decide) (by decide) (Ct.imp (V _ _ HMh16) (fun r h19 n20 V => ?_))
            obtain ⟨rfl, Oh19, s21, HMh19, V⟩ := V
            have HOh19 := Off.tr HOh16 Oh19
            obtain ⟨rfl, V⟩ := V
            show Blk g M_X10_foretell (pM x0 h0 nx Q) 84 [(0, .ref x0), (1, .int (nI x1)), (2, .int (nI x2))] [] h19 nx 0 0
            refine r_iincN 2 (b := 1) (L' := [(2, .int (nI (x2 + 1))), (0, .ref x0), (1, .int (nI x1))]) dX10_foretell_84 rfl rfl (by decide) rfl ?_
            refine r_goto (tgt := 13) dX10_foretell_87 (by decide) ?_
            exact Blk.sub [1, 2, 0] rfl (V _ _ _ HOh19 HMh19)
          · have V := V.2 c
            refine r_iconst (v := (nI 1)) dX10_foretell_71 rfl ?_
            refine r_goto (tgt := 81) dX10_foretell_72 (by decide) ?_
            refine r_callV (M2 := M_X10_part) (ci := 11) (n := 3) (As := [.int (nI x2), .long (lN (s18.sa x2)), .int (nI 1)]) rfl (wl5 wM_X10_249 wi_X10_part wS_X10_part wI_StateSharesModel wc_X10_part) (by decide +kernel) (by decide) rfl rfl (Nat.le_of_ble_eq_true rfl) dX10_foretell_81 (MAt.o_ HMh16) (by decide) (by decide) (Ct.imp (V _ _ HMh16) (fun r h22 n23 V => ?_))
            obtain ⟨rfl, Oh22, s24, HMh22, V⟩ := V
            have HOh22 := Off.tr HOh16 Oh22
            obtain ⟨rfl, V⟩ := V
            show Blk g M_X10_foretell (pM x0 h0 nx Q) 84 [(0, .ref x0), (1, .int (nI x1)), (2, .int (nI x2))] [] h22 nx 0 0
            refine r_iincN 2 (b := 1) (L' := [(2, .int (nI (x2 + 1))), (0, .ref x0), (1, .int (nI x1))]) dX10_foretell_84 rfl rfl (by decide) rfl ?_
            refine r_goto (tgt := 13) dX10_foretell_87 (by decide) ?_
            exact Blk.sub [1, 2, 0] rfl (V _ _ _ HOh22 HMh22)
    · have V := V.2 c
      refine r_lconst (v := (lN 1)) dX10_foretell_30 rfl ?_
      refine r_goto (tgt := 43) dX10_foretell_31 (by decide) ?_
      refine r_callV (M2 := M_X10_set) (ci := 11) (n := 2) (As := [.int (nI x2), .long (lN 1)]) rfl (wl5 wM_X10_82 wi_X10_set wS_X10_set wI_StateSharesModel wc_X10_set) (by decide +kernel) (by decide) rfl rfl (Nat.le_of_ble_eq_true rfl) dX10_foretell_43 (MAt.o_ HM) (by decide) (by decide) (Ct.imp (V _ _ HM) (fun r h25 n26 V => ?_))
      obtain ⟨rfl, Oh25, s27, HMh25, V⟩ := V
      have HOh25 := Off.tr HO Oh25
      obtain ⟨rfl, V⟩ := V
      show Blk g M_X10_foretell (pM x0 h0 nx Q) 46 [(0, .ref x0), (1, .int (nI x1)), (2, .int (nI x2))] [] h25 nx 0 0
      refine r_aload_n 0 dX10_foretell_46 rfl rfl ?_
      refine r_getf (ci := 11) (kf := 18) (T := TX10) rfl in_X10 (by decide) wF_X10_266 dX10_foretell_47 (MAt.o_ HMh25) rfl ?_
      obtain ⟨c, V⟩ := V
      refine r_if_eqN (tgt := 84) dX10_foretell_50 (by decide) c (fun c => ?_) (fun c => ?_)
      · have V := V.1 c
        refine r_iincN 2 (b := 1) (L' := [(2, .int (nI (x2 + 1))), (0, .ref x0), (1, .int (nI x1))]) dX10_foretell_84 rfl rfl (by decide) rfl ?_
        refine r_goto (tgt := 13) dX10_foretell_87 (by decide) ?_
        exact Blk.sub [1, 2, 0] rfl (V _ _ _ HOh25 HMh25)
      · have V := V.2 c
        refine r_aload_n 0 dX10_foretell_53 rfl rfl ?_
        refine r_iload_n 2 dX10_foretell_54 rfl rfl ?_
        refine r_aload_n 0 dX10_foretell_55 rfl rfl ?_
        refine r_getf (ci := 11) (kf := 19) (T := TX10) rfl in_X10 (by decide) wF_X10_37 dX10_foretell_56 (MAt.o_ HMh25) rfl ?_
        refine r_iload_n 2 dX10_foretell_59 rfl rfl ?_
        obtain ⟨c, V⟩ := V
        refine r_iald dX10_foretell_60 (MAt.g_sa HMh25) rfl c (by decide) ?_
        show Blk g M_X10_foretell (pM x0 h0 nx Q) 61 [(0, .ref x0), (1, .int (nI x1)), (2, .int (nI x2))] [.int (nI (s27.sa x2)), .int (nI x2), .ref x0] h25 nx 0 0
        obtain ⟨c, V⟩ := V
        refine r_i2lN dX10_foretell_61 c ?_
        refine r_aload_n 0 dX10_foretell_62 rfl rfl ?_
        refine r_getf (ci := 11) (kf := 20) (T := TX10) rfl in_X10 (by decide) wF_X10_40 dX10_foretell_63 (MAt.o_ HMh25) rfl ?_
        refine r_iload_n 2 dX10_foretell_66 rfl rfl ?_
        obtain ⟨c, V⟩ := V
        refine r_iald dX10_foretell_67 (MAt.g_sb HMh25) rfl c (by decide) ?_
        show Blk g M_X10_foretell (pM x0 h0 nx Q) 68 [(0, .ref x0), (1, .int (nI x1)), (2, .int (nI x2))] [.int (nI (s27.sb x2)), .long (lN (s27.sa x2)), .int (nI x2), .ref x0] h25 nx 0 0
        obtain ⟨c, V⟩ := V
        refine r_if_neN (tgt := 75) dX10_foretell_68 (by decide) c (fun c => ?_) (fun c => ?_)
        · have V := V.1 c
          refine r_aload_n 0 dX10_foretell_75 rfl rfl ?_
          refine r_getf (ci := 11) (kf := 20) (T := TX10) rfl in_X10 (by decide) wF_X10_40 dX10_foretell_76 (MAt.o_ HMh25) rfl ?_
          refine r_iload_n 2 dX10_foretell_79 rfl rfl ?_
          obtain ⟨c, V⟩ := V
          refine r_iald dX10_foretell_80 (MAt.g_sb HMh25) rfl c (by decide) ?_
          show Blk g M_X10_foretell (pM x0 h0 nx Q) 81 [(0, .ref x0), (1, .int (nI x1)), (2, .int (nI x2))] [.int (nI (s27.sb x2)), .long (lN (s27.sa x2)), .int (nI x2), .ref x0] h25 nx 0 0
          refine r_callV (M2 := M_X10_part) (ci := 11) (n := 3) (As := [.int (nI x2), .long (lN (s27.sa x2)), .int (nI (s27.sb x2))]) rfl (wl5 wM_X10_249 wi_X10_part wS_X10_part wI_StateSharesModel wc_X10_part) (by decide +kernel) (by decide) rfl rfl (Nat.le_of_ble_eq_true rfl) dX10_foretell_81 (MAt.o_ HMh25) (by decide) (by decide) (Ct.imp (V _ _ HMh25) (fun r h28 n29 V => ?_))
          obtain ⟨rfl, Oh28, s30, HMh28, V⟩ := V
          have HOh28 := Off.tr HOh25 Oh28
          obtain ⟨rfl, V⟩ := V
          show Blk g M_X10_foretell (pM x0 h0 nx Q) 84 [(0, .ref x0), (1, .int (nI x1)), (2, .int (nI x2))] [] h28 nx 0 0
          refine r_iincN 2 (b := 1) (L' := [(2, .int (nI (x2 + 1))), (0, .ref x0), (1, .int (nI x1))]) dX10_foretell_84 rfl rfl (by decide) rfl ?_
          refine r_goto (tgt := 13) dX10_foretell_87 (by decide) ?_
          exact Blk.sub [1, 2, 0] rfl (V _ _ _ HOh28 HMh28)
        · have V := V.2 c
          refine r_iconst (v := (nI 1)) dX10_foretell_71 rfl ?_
          refine r_goto (tgt := 81) dX10_foretell_72 (by decide) ?_
          refine r_callV (M2 := M_X10_part) (ci := 11) (n := 3) (As := [.int (nI x2), .long (lN (s27.sa x2)), .int (nI 1)]) rfl (wl5 wM_X10_249 wi_X10_part wS_X10_part wI_StateSharesModel wc_X10_part) (by decide +kernel) (by decide) rfl rfl (Nat.le_of_ble_eq_true rfl) dX10_foretell_81 (MAt.o_ HMh25) (by decide) (by decide) (Ct.imp (V _ _ HMh25) (fun r h31 n32 V => ?_))
          obtain ⟨rfl, Oh31, s33, HMh31, V⟩ := V
          have HOh31 := Off.tr HOh25 Oh31
          obtain ⟨rfl, V⟩ := V
          show Blk g M_X10_foretell (pM x0 h0 nx Q) 84 [(0, .ref x0), (1, .int (nI x1)), (2, .int (nI x2))] [] h31 nx 0 0
          refine r_iincN 2 (b := 1) (L' := [(2, .int (nI (x2 + 1))), (0, .ref x0), (1, .int (nI x1))]) dX10_foretell_84 rfl rfl (by decide) rfl ?_
          refine r_goto (tgt := 13) dX10_foretell_87 (by decide) ?_
          exact Blk.sub [1, 2, 0] rfl (V _ _ _ HOh31 HMh31)
set_option maxRecDepth 20000 in
theorem v_X10_foretell_111 {g : xG} {Q : mQ} {s : MV} {x0 : Nat} {x1 : Nat} (V : ((s.up < 2 ^ 31 ∧ x1 < 2 ^ 31) ∧ ((x1 ≤ s.up → (Q none s)) ∧ (s.up < x1 → (s.up < 12 ∧ ((s.tl s.up) < 2 ^ 31 ∧ (((s.tl s.up) = 0 → (CtM g M_X10_step [.ref x0, .int (nI s.up)] x0 s (fun r s3 => r = none ∧ BlkM g M_X10_foretell x0 Q 111 [(0, .ref x0), (1, .int (nI x1))] [] (MV.u_up s3 (s3.up + 1))))) ∧ (¬ (s.tl s.up) = 0 → ((s.up + 1) < 12 ∧ 1 ≤ 1 ∧ BlkM g M_X10_foretell x0 Q 111 [(0, .ref x0), (1, .int (nI x1))] [] (MV.u_up (MV.u_tl s (va_up s.tl (s.up + 1) 1)) (s.up + 1))))))))))) : BlkM g M_X10_foretell x0 Q 111 [(0, .ref x0), (1, .int (nI x1))] [] s := by
  intro h0 h nx HO HM
  refine r_aload_n 0 dX10_foretell_111 rfl rfl ?_
  refine r_getf (ci := 11) (kf := 32) (T := TX10) rfl in_X10 (by decide) wF_X10_269 dX10_foretell_112 (MAt.o_ HM) rfl ?_
  refine r_iload_n 1 dX10_foretell_115 rfl rfl ?_
  obtain ⟨c, V⟩ := V
  refine r_icmp_geN (tgt := 167) dX10_foretell_116 (by decide) c (fun c => ?_) (fun c => ?_)
  · have V := V.1 c
    exact r_vret dX10_foretell_167 rfl (by decide) (by decide) ⟨rfl, HO, _, HM, V⟩
  · have V := V.2 c
    refine r_aload_n 0 dX10_foretell_119 rfl rfl ?_
    refine r_getf (ci := 11) (kf := 30) (T := TX10) rfl in_X10 (by decide) wF_X10_71 dX10_foretell_120 (MAt.o_ HM) rfl ?_
    refine r_aload_n 0 dX10_foretell_123 rfl rfl ?_
    refine r_getf (ci := 11) (kf := 32) (T := TX10) rfl in_X10 (by decide) wF_X10_269 dX10_foretell_124 (MAt.o_ HM) rfl ?_
    obtain ⟨c, V⟩ := V
    refine r_zald dX10_foretell_127 (MAt.g_tl HM) rfl c (by decide) ?_
    show Blk g M_X10_foretell (pM x0 h0 nx Q) 128 [(0, .ref x0), (1, .int (nI x1))] [.int (nI (s.tl s.up))] h nx 0 0
    obtain ⟨c, V⟩ := V
    refine r_if_eqN (tgt := 146) dX10_foretell_128 (by decide) c (fun c => ?_) (fun c => ?_)
    · have V := V.1 c
      refine r_aload_n 0 dX10_foretell_146 rfl rfl ?_
      refine r_aload_n 0 dX10_foretell_147 rfl rfl ?_
      refine r_getf (ci := 11) (kf := 32) (T := TX10) rfl in_X10 (by decide) wF_X10_269 dX10_foretell_148 (MAt.o_ HM) rfl ?_
      refine r_callV (M2 := M_X10_step) (ci := 11) (n := 1) (As := [.int (nI s.up)]) rfl (wl5 wM_X10_272 wi_X10_step wS_X10_step wI_StateSharesModel wc_X10_step) (by decide +kernel) (by decide) rfl rfl (Nat.le_of_ble_eq_true rfl) dX10_foretell_151 (MAt.o_ HM) (by decide) (by decide) (Ct.imp (V _ _ HM) (fun r h1 n2 V => ?_))
      obtain ⟨rfl, Oh1, s3, HMh1, V⟩ := V
      have HOh1 := Off.tr HO Oh1
      obtain ⟨rfl, V⟩ := V
      show Blk g M_X10_foretell (pM x0 h0 nx Q) 154 [(0, .ref x0), (1, .int (nI x1))] [] h1 nx 0 0
      refine r_aload_n 0 dX10_foretell_154 rfl rfl ?_
      refine r_dup dX10_foretell_155 rfl ?_
      refine r_getf (ci := 11) (kf := 32) (T := TX10) rfl in_X10 (by decide) wF_X10_269 dX10_foretell_156 (MAt.o_ HMh1) rfl ?_
      refine r_iconst (v := (nI 1)) dX10_foretell_159 rfl ?_
      refine r_iaddN dX10_foretell_160 ?_
      refine r_putf (ci := 11) (kf := 32) (T := TX10) rfl in_X10 tyX10_ok nmX10 (by decide) wF_X10_269 rfl (tyX10_ok 32 (by decide)) dX10_foretell_161 (MAt.o_ HMh1) (Nat.le_of_ble_eq_true rfl) rfl rfl ?_
      obtain ⟨hu4, eu4, HMu4, HOu4⟩ := mo_o HMh1 HOh1 s3.cd s3.n s3.sz s3.wn s3.at_ s3.wr s3.ru s3.dn s3.lm s3.st s3.fr (s3.up + 1)
      refine Blk.eqs ?_ rfl rfl eu4
      replace HMu4 : MAt hu4 x0 (MV.u_up s3 (s3.up + 1)) := HMu4
      show Blk g M_X10_foretell (pM x0 h0 nx Q) 164 [(0, .ref x0), (1, .int (nI x1))] [] hu4 nx 0 0
      refine r_goto (tgt := 111) dX10_foretell_164 (by decide) ?_
      exact Blk.sub [0, 1] rfl (V _ _ _ HOu4 HMu4)
    · have V := V.2 c
      refine r_aload_n 0 dX10_foretell_131 rfl rfl ?_
      refine r_getf (ci := 11) (kf := 30) (T := TX10) rfl in_X10 (by decide) wF_X10_71 dX10_foretell_132 (MAt.o_ HM) rfl ?_
      refine r_aload_n 0 dX10_foretell_135 rfl rfl ?_
      refine r_getf (ci := 11) (kf := 32) (T := TX10) rfl in_X10 (by decide) wF_X10_269 dX10_foretell_136 (MAt.o_ HM) rfl ?_
      refine r_iconst (v := (nI 1)) dX10_foretell_139 rfl ?_
      refine r_iaddN dX10_foretell_140 ?_
      refine r_iconst (v := (nI 1)) dX10_foretell_141 rfl ?_
      obtain ⟨c, c5, V⟩ := V
      refine r_zastN dX10_foretell_142 (MAt.g_tl HM) c (by decide) c5 ?_
      obtain ⟨hu5, eu5, HMu5, HOu5⟩ := mo_tl HM HO (va_up s.tl (s.up + 1) 1)
      refine Blk.eqs ?_ rfl rfl eu5
      replace HMu5 : MAt hu5 x0 (MV.u_tl s (va_up s.tl (s.up + 1) 1)) := HMu5
      show Blk g M_X10_foretell (pM x0 h0 nx Q) 143 [(0, .ref x0), (1, .int (nI x1))] [] hu5 nx 0 0
      refine r_goto (tgt := 154) dX10_foretell_143 (by decide) ?_
      refine r_aload_n 0 dX10_foretell_154 rfl rfl ?_
      refine r_dup dX10_foretell_155 rfl ?_
      refine r_getf (ci := 11) (kf := 32) (T := TX10) rfl in_X10 (by decide) wF_X10_269 dX10_foretell_156 (MAt.o_ HMu5) rfl ?_
      show Blk g M_X10_foretell (pM x0 h0 nx Q) 159 [(0, .ref x0), (1, .int (nI x1))] [.int (nI s.up), .ref x0] hu5 nx 0 0
      refine r_iconst (v := (nI 1)) dX10_foretell_159 rfl ?_
      refine r_iaddN dX10_foretell_160 ?_
      refine r_putf (ci := 11) (kf := 32) (T := TX10) rfl in_X10 tyX10_ok nmX10 (by decide) wF_X10_269 rfl (tyX10_ok 32 (by decide)) dX10_foretell_161 (MAt.o_ HMu5) (Nat.le_of_ble_eq_true rfl) rfl rfl ?_
      obtain ⟨hu6, eu6, HMu6, HOu6⟩ := mo_o HMu5 HOu5 s.cd s.n s.sz s.wn s.at_ s.wr s.ru s.dn s.lm s.st s.fr (s.up + 1)
      refine Blk.eqs ?_ rfl rfl eu6
      replace HMu6 : MAt hu6 x0 (MV.u_up (MV.u_tl s (va_up s.tl (s.up + 1) 1)) (s.up + 1)) := HMu6
      show Blk g M_X10_foretell (pM x0 h0 nx Q) 164 [(0, .ref x0), (1, .int (nI x1))] [] hu6 nx 0 0
      refine r_goto (tgt := 111) dX10_foretell_164 (by decide) ?_
      exact Blk.sub [0, 1] rfl (V _ _ _ HOu6 HMu6)
set_option maxRecDepth 20000 in
theorem v_X10_isForetold_0 {g : xG} {Q : mQ} {s : MV} {x0 : Nat} {x1 : Int32} (V : (CtP g M_X10_in [.long (x1.toInt64), .long (lN 0), .long (lN 11)] (fun r => ∃ v3 : Nat, r = some (.int (nI v3)) ∧ (v3 < 2 ^ 31 ∧ ((¬ v3 = 0 → (CtM g M_X10_foretell [.ref x0, .int x1] x0 s (fun r s6 => r = none ∧ (∃ j7 : Nat, x1 = nI j7 ∧ j7 < 12 ∧ ((s6.tl j7) < 2 ^ 31 ∧ ((¬ (s6.tl j7) = 0 → (Q (some (.int (nI 0))) s6)) ∧ ((s6.tl j7) = 0 → (Q (some (.int (nI 1))) s6)))))))) ∧ (v3 = 0 → (Q (some (.int (nI 0))) s))))))) : BlkM g M_X10_isForetold x0 Q 0 [(0, .ref x0), (1, .int x1)] [] s := by
  intro h0 h nx HO HM
  refine r_iload_n 1 dX10_isForetold_0 rfl rfl ?_
  refine r_i2l dX10_isForetold_1 ?_
  refine r_lconst (v := (lN 0)) dX10_isForetold_2 rfl ?_
  refine r_ldc2 (v := (lN 11)) wL_X10_100 dX10_isForetold_3 ?_
  refine r_callS (M2 := M_X10_in) (n := 3) (As := [.long (x1.toInt64), .long (lN 0), .long (lN 11)]) (wl4 wM_X10_94 ws_X10_in wI_StateSharesModel wc_X10_in) (by decide +kernel) (by decide) rfl rfl (Nat.le_of_ble_eq_true rfl) dX10_isForetold_6 (by decide) (by decide) (Ct.imp (V _ _) (fun r h1 n2 V => ?_))
  obtain ⟨rfl, rfl, V⟩ := V
  obtain ⟨v3, rfl, V⟩ := V
  show Blk g M_X10_isForetold (pM x0 h0 nx Q) 9 [(0, .ref x0), (1, .int x1)] [.int (nI v3)] h nx 0 0
  obtain ⟨c, V⟩ := V
  refine r_if_neN (tgt := 14) dX10_isForetold_9 (by decide) c (fun c => ?_) (fun c => ?_)
  · have V := V.1 c
    refine r_aload_n 0 dX10_isForetold_14 rfl rfl ?_
    refine r_iload_n 1 dX10_isForetold_15 rfl rfl ?_
    refine r_callV (M2 := M_X10_foretell) (ci := 11) (n := 1) (As := [.int x1]) rfl (wl5 wM_X10_275 wi_X10_foretell wS_X10_foretell wI_StateSharesModel wc_X10_foretell) (by decide +kernel) (by decide) rfl rfl (Nat.le_of_ble_eq_true rfl) dX10_isForetold_16 (MAt.o_ HM) (by decide) (by decide) (Ct.imp (V _ _ HM) (fun r h4 n5 V => ?_))
    obtain ⟨rfl, Oh4, s6, HMh4, V⟩ := V
    have HOh4 := Off.tr HO Oh4
    obtain ⟨rfl, V⟩ := V
    show Blk g M_X10_isForetold (pM x0 h0 nx Q) 19 [(0, .ref x0), (1, .int x1)] [] h4 nx 0 0
    refine r_aload_n 0 dX10_isForetold_19 rfl rfl ?_
    refine r_getf (ci := 11) (kf := 30) (T := TX10) rfl in_X10 (by decide) wF_X10_71 dX10_isForetold_20 (MAt.o_ HMh4) rfl ?_
    refine r_iload_n 1 dX10_isForetold_23 rfl rfl ?_
    obtain ⟨j7, e8, V⟩ := V
    obtain ⟨c, V⟩ := V
    refine r_zald dX10_isForetold_24 (MAt.g_tl HMh4) e8 c (by decide) ?_
    show Blk g M_X10_isForetold (pM x0 h0 nx Q) 25 [(0, .ref x0), (1, .int x1)] [.int (nI (s6.tl j7))] h4 nx 0 0
    obtain ⟨c, V⟩ := V
    refine r_if_neN (tgt := 32) dX10_isForetold_25 (by decide) c (fun c => ?_) (fun c => ?_)
    · have V := V.1 c
      refine r_iconst (v := (nI 0)) dX10_isForetold_32 rfl ?_
      exact r_zret (ty := .boolean) dX10_isForetold_33 rfl rfl (by decide) (by decide) ⟨rfl, HOh4, _, HMh4, V⟩
    · have V := V.2 c
      refine r_iconst (v := (nI 1)) dX10_isForetold_28 rfl ?_
      refine r_goto (tgt := 33) dX10_isForetold_29 (by decide) ?_
      exact r_zret (ty := .boolean) dX10_isForetold_33 rfl rfl (by decide) (by decide) ⟨rfl, HOh4, _, HMh4, V⟩
  · have V := V.2 c
    refine r_iconst (v := (nI 0)) dX10_isForetold_12 rfl ?_
    exact r_zret (ty := .boolean) dX10_isForetold_13 rfl rfl (by decide) (by decide) ⟨rfl, HO, _, HM, V⟩
set_option maxRecDepth 20000 in
theorem v_X10_at_0 {g : xG} {Q : mQ} {s : MV} {x0 : Nat} {x1 : Int32} {x2 : Int32} {x3 : Int32} (V : (CtM g M_X10_isState [.ref x0, .int x1] x0 s (fun r s3 => ∃ v4 : Nat, r = some (.int (nI v4)) ∧ (v4 < 2 ^ 31 ∧ ((v4 = 0 → (Q (some (.long (lN 0))) (MV.u_cd s3 1))) ∧ (¬ v4 = 0 → (CtM g M_X10_isForetold [.ref x0, .int x2] x0 (MV.u_cd s3 0) (fun r s9 => ∃ v10 : Nat, r = some (.int (nI v10)) ∧ (v10 < 2 ^ 31 ∧ ((v10 = 0 → (Q (some (.long (-1))) s9)) ∧ (¬ v10 = 0 → (CtM g M_X10_partOf [.ref x0, .int (((nI 6) * x2) + x1), .int x3] x0 s9 (fun r s13 => ∃ v14 : Nat, r = some (.long (lN v14)) ∧ (Q (some (.long (lN v14))) s13)))))))))))))) : BlkM g M_X10_at x0 Q 0 [(0, .ref x0), (1, .int x1), (2, .int x2), (3, .int x3)] [] s := by
  intro h0 h nx HO HM
  refine r_aload_n 0 dX10_at_0 rfl rfl ?_
  refine r_aload_n 0 dX10_at_1 rfl rfl ?_
  refine r_iload_n 1 dX10_at_2 rfl rfl ?_
  refine r_callV (M2 := M_X10_isState) (ci := 11) (n := 1) (As := [.int x1]) rfl (wl5 wM_X10_108 wi_X10_isState wS_X10_isState wI_StateSharesModel wc_X10_isState) (by decide +kernel) (by decide) rfl rfl (Nat.le_of_ble_eq_true rfl) dX10_at_3 (MAt.o_ HM) (by decide) (by decide) (Ct.imp (V _ _ HM) (fun r h1 n2 V => ?_))
  obtain ⟨rfl, Oh1, s3, HMh1, V⟩ := V
  have HOh1 := Off.tr HO Oh1
  obtain ⟨v4, rfl, V⟩ := V
  show Blk g M_X10_at (pM x0 h0 nx Q) 6 [(0, .ref x0), (1, .int x1), (2, .int x2), (3, .int x3)] [.int (nI v4), .ref x0] h1 nx 0 0
  obtain ⟨c, V⟩ := V
  refine r_if_eqN (tgt := 13) dX10_at_6 (by decide) c (fun c => ?_) (fun c => ?_)
  · have V := V.1 c
    refine r_iconst (v := (nI 1)) dX10_at_13 rfl ?_
    refine r_putf (ci := 11) (kf := 0) (T := TX10) rfl in_X10 tyX10_ok nmX10 (by decide) wF_X10_91 rfl (tyX10_ok 0 (by decide)) dX10_at_14 (MAt.o_ HMh1) (Nat.le_of_ble_eq_true rfl) rfl rfl ?_
    obtain ⟨hu5, eu5, HMu5, HOu5⟩ := mo_o HMh1 HOh1 1 s3.n s3.sz s3.wn s3.at_ s3.wr s3.ru s3.dn s3.lm s3.st s3.fr s3.up
    refine Blk.eqs ?_ rfl rfl eu5
    replace HMu5 : MAt hu5 x0 (MV.u_cd s3 1) := HMu5
    show Blk g M_X10_at (pM x0 h0 nx Q) 17 [(0, .ref x0), (1, .int x1), (2, .int x2), (3, .int x3)] [] hu5 nx 0 0
    refine r_aload_n 0 dX10_at_17 rfl rfl ?_
    refine r_getf (ci := 11) (kf := 0) (T := TX10) rfl in_X10 (by decide) wF_X10_91 dX10_at_18 (MAt.o_ HMu5) rfl ?_
    show Blk g M_X10_at (pM x0 h0 nx Q) 21 [(0, .ref x0), (1, .int x1), (2, .int x2), (3, .int x3)] [.int (nI 1)] hu5 nx 0 0
    refine r_if_leN (tgt := 26) dX10_at_21 (by decide) (by decide) (fun c => absurd c (by decide)) (fun _ => ?_)
    refine r_lconst (v := (lN 0)) dX10_at_24 rfl ?_
    exact r_lret dX10_at_25 rfl (by decide) (by decide) ⟨rfl, HOu5, _, HMu5, V⟩
  · have V := V.2 c
    refine r_iconst (v := (nI 0)) dX10_at_9 rfl ?_
    refine r_goto (tgt := 14) dX10_at_10 (by decide) ?_
    refine r_putf (ci := 11) (kf := 0) (T := TX10) rfl in_X10 tyX10_ok nmX10 (by decide) wF_X10_91 rfl (tyX10_ok 0 (by decide)) dX10_at_14 (MAt.o_ HMh1) (Nat.le_of_ble_eq_true rfl) rfl rfl ?_
    obtain ⟨hu6, eu6, HMu6, HOu6⟩ := mo_o HMh1 HOh1 0 s3.n s3.sz s3.wn s3.at_ s3.wr s3.ru s3.dn s3.lm s3.st s3.fr s3.up
    refine Blk.eqs ?_ rfl rfl eu6
    replace HMu6 : MAt hu6 x0 (MV.u_cd s3 0) := HMu6
    show Blk g M_X10_at (pM x0 h0 nx Q) 17 [(0, .ref x0), (1, .int x1), (2, .int x2), (3, .int x3)] [] hu6 nx 0 0
    refine r_aload_n 0 dX10_at_17 rfl rfl ?_
    refine r_getf (ci := 11) (kf := 0) (T := TX10) rfl in_X10 (by decide) wF_X10_91 dX10_at_18 (MAt.o_ HMu6) rfl ?_
    show Blk g M_X10_at (pM x0 h0 nx Q) 21 [(0, .ref x0), (1, .int x1), (2, .int x2), (3, .int x3)] [.int (nI 0)] hu6 nx 0 0
    refine r_if_leN (tgt := 26) dX10_at_21 (by decide) (by decide) (fun _ => ?_) (fun c => absurd c (by decide))
    refine r_aload_n 0 dX10_at_26 rfl rfl ?_
    refine r_iload_n 2 dX10_at_27 rfl rfl ?_
    refine r_callV (M2 := M_X10_isForetold) (ci := 11) (n := 1) (As := [.int x2]) rfl (wl5 wM_X10_278 wi_X10_isForetold wS_X10_isForetold wI_StateSharesModel wc_X10_isForetold) (by decide +kernel) (by decide) rfl rfl (Nat.le_of_ble_eq_true rfl) dX10_at_28 (MAt.o_ HMu6) (by decide) (by decide) (Ct.imp (V _ _ HMu6) (fun r h7 n8 V => ?_))
    obtain ⟨rfl, Oh7, s9, HMh7, V⟩ := V
    have HOh7 := Off.tr HOu6 Oh7
    obtain ⟨v10, rfl, V⟩ := V
    show Blk g M_X10_at (pM x0 h0 nx Q) 31 [(0, .ref x0), (1, .int x1), (2, .int x2), (3, .int x3)] [.int (nI v10)] h7 nx 0 0
    obtain ⟨c, V⟩ := V
    refine r_if_eqN (tgt := 48) dX10_at_31 (by decide) c (fun c => ?_) (fun c => ?_)
    · have V := V.1 c
      refine r_ldc2 (v := (-1)) wL_X10_215 dX10_at_48 ?_
      exact r_lret dX10_at_51 rfl (by decide) (by decide) ⟨rfl, HOh7, _, HMh7, V⟩
    · have V := V.2 c
      refine r_aload_n 0 dX10_at_34 rfl rfl ?_
      refine r_bipush (v := (nI 6)) dX10_at_35 rfl ?_
      refine r_iload_n 2 dX10_at_37 rfl rfl ?_
      refine r_imul dX10_at_38 ?_
      refine r_iload_n 1 dX10_at_39 rfl rfl ?_
      refine r_iadd dX10_at_40 ?_
      refine r_iload_n 3 dX10_at_41 rfl rfl ?_
      refine r_callV (M2 := M_X10_partOf) (ci := 11) (n := 2) (As := [.int (((nI 6) * x2) + x1), .int x3]) rfl (wl5 wM_X10_281 wi_X10_partOf wS_X10_partOf wI_StateSharesModel wc_X10_partOf) (by decide +kernel) (by decide) rfl rfl (Nat.le_of_ble_eq_true rfl) dX10_at_42 (MAt.o_ HMh7) (by decide) (by decide) (Ct.imp (V _ _ HMh7) (fun r h11 n12 V => ?_))
      obtain ⟨rfl, Oh11, s13, HMh11, V⟩ := V
      have HOh11 := Off.tr HOh7 Oh11
      obtain ⟨v14, rfl, V⟩ := V
      show Blk g M_X10_at (pM x0 h0 nx Q) 45 [(0, .ref x0), (1, .int x1), (2, .int x2), (3, .int x3)] [.long (lN v14)] h11 nx 0 0
      refine r_goto (tgt := 51) dX10_at_45 (by decide) ?_
      exact r_lret dX10_at_51 rfl (by decide) (by decide) ⟨rfl, HOh11, _, HMh11, V⟩
set_option maxRecDepth 20000 in
theorem v_X10_isFraction_0 {g : xG} {Q : pQ} {x0 : Int64} {x2 : Int64} (V : (CtP g M_X10_in [.long x2, .long (lN 1), .long (lN 1000)] (fun r => ∃ v3 : Nat, r = some (.int (nI v3)) ∧ (v3 < 2 ^ 31 ∧ ((v3 = 0 → (Q (some (.int (nI 0))))) ∧ (¬ v3 = 0 → (CtP g M_X10_in [.long x0, .long (lN 0), .long x2] (fun r => ∃ v6 : Nat, r = some (.int (nI v6)) ∧ (v6 < 2 ^ 31 ∧ ((v6 = 0 → (Q (some (.int (nI 0))))) ∧ (¬ v6 = 0 → (Q (some (.int (nI 1))))))))))))))) : BlkP g M_X10_isFraction Q 0 [(0, .long x0), (2, .long x2)] [] := by
  intro h nx
  refine r_lload_n 1 dX10_isFraction_0 rfl rfl ?_
  refine r_lconst (v := (lN 1)) dX10_isFraction_1 rfl ?_
  refine r_ldc2 (v := (lN 1000)) wL_X10_284 dX10_isFraction_2 ?_
  refine r_callS (M2 := M_X10_in) (n := 3) (As := [.long x2, .long (lN 1), .long (lN 1000)]) (wl4 wM_X10_94 ws_X10_in wI_StateSharesModel wc_X10_in) (by decide +kernel) (by decide) rfl rfl (Nat.le_of_ble_eq_true rfl) dX10_isFraction_5 (by decide) (by decide) (Ct.imp (V _ _) (fun r h1 n2 V => ?_))
  obtain ⟨rfl, rfl, V⟩ := V
  obtain ⟨v3, rfl, V⟩ := V
  show Blk g M_X10_isFraction (pP h nx Q) 8 [(0, .long x0), (2, .long x2)] [.int (nI v3)] h nx 0 0
  obtain ⟨c, V⟩ := V
  refine r_if_eqN (tgt := 24) dX10_isFraction_8 (by decide) c (fun c => ?_) (fun c => ?_)
  · have V := V.1 c
    refine r_iconst (v := (nI 0)) dX10_isFraction_24 rfl ?_
    exact r_zret (ty := .boolean) dX10_isFraction_25 rfl rfl (by decide) (by decide) ⟨rfl, rfl, V⟩
  · have V := V.2 c
    refine r_lload_n 0 dX10_isFraction_11 rfl rfl ?_
    refine r_lconst (v := (lN 0)) dX10_isFraction_12 rfl ?_
    refine r_lload_n 1 dX10_isFraction_13 rfl rfl ?_
    refine r_callS (M2 := M_X10_in) (n := 3) (As := [.long x0, .long (lN 0), .long x2]) (wl4 wM_X10_94 ws_X10_in wI_StateSharesModel wc_X10_in) (by decide +kernel) (by decide) rfl rfl (Nat.le_of_ble_eq_true rfl) dX10_isFraction_14 (by decide) (by decide) (Ct.imp (V _ _) (fun r h4 n5 V => ?_))
    obtain ⟨rfl, rfl, V⟩ := V
    obtain ⟨v6, rfl, V⟩ := V
    show Blk g M_X10_isFraction (pP h nx Q) 17 [(0, .long x0), (2, .long x2)] [.int (nI v6)] h nx 0 0
    obtain ⟨c, V⟩ := V
    refine r_if_eqN (tgt := 24) dX10_isFraction_17 (by decide) c (fun c => ?_) (fun c => ?_)
    · have V := V.1 c
      refine r_iconst (v := (nI 0)) dX10_isFraction_24 rfl ?_
      exact r_zret (ty := .boolean) dX10_isFraction_25 rfl rfl (by decide) (by decide) ⟨rfl, rfl, V⟩
    · have V := V.2 c
      refine r_iconst (v := (nI 1)) dX10_isFraction_20 rfl ?_
      refine r_goto (tgt := 25) dX10_isFraction_21 (by decide) ?_
      exact r_zret (ty := .boolean) dX10_isFraction_25 rfl rfl (by decide) (by decide) ⟨rfl, rfl, V⟩
set_option maxRecDepth 20000 in
theorem v_X10_start_0 {g : xG} {Q : mQ} {s : MV} {x0 : Nat} {x1 : Int32} {x2 : Int64} {x4 : Int64} (V : (CtM g M_X10_isState [.ref x0, .int x1] x0 (MV.u_cd s 0) (fun r s4 => ∃ v5 : Nat, r = some (.int (nI v5)) ∧ (v5 < 2 ^ 31 ∧ ((v5 = 0 → (Q (some (.int (nI 0))) s4)) ∧ (¬ v5 = 0 → (CtP g M_X10_isFraction [.long x2, .long x4] (fun r => ∃ v8 : Nat, r = some (.int (nI v8)) ∧ (v8 < 2 ^ 31 ∧ ((¬ v8 = 0 → (∃ j10 : Nat, x1 = nI j10 ∧ ∃ z12 : Nat, (x2.toInt32) = nI z12 ∧ j10 < 6 ∧ (∃ j15 : Nat, x1 = nI j15 ∧ ∃ z17 : Nat, (x4.toInt32) = nI z17 ∧ j15 < 6 ∧ (Q (some (.int (nI 1))) (MV.u_fr (MV.u_sb (MV.u_sa (MV.u_st s4 1) (va_up s4.sa j10 z12)) (va_up s4.sb j15 z17)) 0))))) ∧ (v8 = 0 → (Q (some (.int (nI 0))) s4)))))))))))) : BlkM g M_X10_start x0 Q 0 [(0, .ref x0), (1, .int x1), (2, .long x2), (4, .long x4)] [] s := by
  intro h0 h nx HO HM
  refine r_aload_n 0 dX10_start_0 rfl rfl ?_
  refine r_iconst (v := (nI 0)) dX10_start_1 rfl ?_
  refine r_putf (ci := 11) (kf := 0) (T := TX10) rfl in_X10 tyX10_ok nmX10 (by decide) wF_X10_91 rfl (tyX10_ok 0 (by decide)) dX10_start_2 (MAt.o_ HM) (Nat.le_of_ble_eq_true rfl) rfl rfl ?_
  obtain ⟨hu1, eu1, HMu1, HOu1⟩ := mo_o HM HO 0 s.n s.sz s.wn s.at_ s.wr s.ru s.dn s.lm s.st s.fr s.up
  refine Blk.eqs ?_ rfl rfl eu1
  replace HMu1 : MAt hu1 x0 (MV.u_cd s 0) := HMu1
  show Blk g M_X10_start (pM x0 h0 nx Q) 5 [(0, .ref x0), (1, .int x1), (2, .long x2), (4, .long x4)] [] hu1 nx 0 0
  refine r_aload_n 0 dX10_start_5 rfl rfl ?_
  refine r_iload_n 1 dX10_start_6 rfl rfl ?_
  refine r_callV (M2 := M_X10_isState) (ci := 11) (n := 1) (As := [.int x1]) rfl (wl5 wM_X10_108 wi_X10_isState wS_X10_isState wI_StateSharesModel wc_X10_isState) (by decide +kernel) (by decide) rfl rfl (Nat.le_of_ble_eq_true rfl) dX10_start_7 (MAt.o_ HMu1) (by decide) (by decide) (Ct.imp (V _ _ HMu1) (fun r h2 n3 V => ?_))
  obtain ⟨rfl, Oh2, s4, HMh2, V⟩ := V
  have HOh2 := Off.tr HOu1 Oh2
  obtain ⟨v5, rfl, V⟩ := V
  show Blk g M_X10_start (pM x0 h0 nx Q) 10 [(0, .ref x0), (1, .int x1), (2, .long x2), (4, .long x4)] [.int (nI v5)] h2 nx 0 0
  obtain ⟨c, V⟩ := V
  refine r_if_eqN (tgt := 22) dX10_start_10 (by decide) c (fun c => ?_) (fun c => ?_)
  · have V := V.1 c
    refine r_iconst (v := (nI 0)) dX10_start_22 rfl ?_
    exact r_zret (ty := .boolean) dX10_start_23 rfl rfl (by decide) (by decide) ⟨rfl, HOh2, _, HMh2, V⟩
  · have V := V.2 c
    refine r_lload_n 2 dX10_start_13 rfl rfl ?_
    refine r_lload 3 dX10_start_14 rfl ?_
    refine r_callS (M2 := M_X10_isFraction) (n := 2) (As := [.long x2, .long x4]) (wl4 wM_X10_286 ws_X10_isFraction wI_StateSharesModel wc_X10_isFraction) (by decide +kernel) (by decide) rfl rfl (Nat.le_of_ble_eq_true rfl) dX10_start_16 (by decide) (by decide) (Ct.imp (V _ _) (fun r h6 n7 V => ?_))
    obtain ⟨rfl, rfl, V⟩ := V
    obtain ⟨v8, rfl, V⟩ := V
    show Blk g M_X10_start (pM x0 h0 nx Q) 19 [(0, .ref x0), (1, .int x1), (2, .long x2), (4, .long x4)] [.int (nI v8)] h2 nx 0 0
    obtain ⟨c, V⟩ := V
    refine r_if_neN (tgt := 24) dX10_start_19 (by decide) c (fun c => ?_) (fun c => ?_)
    · have V := V.1 c
      refine r_aload_n 0 dX10_start_24 rfl rfl ?_
      refine r_iconst (v := (nI 1)) dX10_start_25 rfl ?_
      refine r_putf (ci := 11) (kf := 18) (T := TX10) rfl in_X10 tyX10_ok nmX10 (by decide) wF_X10_266 rfl (tyX10_ok 18 (by decide)) dX10_start_26 (MAt.o_ HMh2) (Nat.le_of_ble_eq_true rfl) rfl rfl ?_
      obtain ⟨hu9, eu9, HMu9, HOu9⟩ := mo_o HMh2 HOh2 s4.cd s4.n s4.sz s4.wn s4.at_ s4.wr s4.ru s4.dn s4.lm 1 s4.fr s4.up
      refine Blk.eqs ?_ rfl rfl eu9
      replace HMu9 : MAt hu9 x0 (MV.u_st s4 1) := HMu9
      show Blk g M_X10_start (pM x0 h0 nx Q) 29 [(0, .ref x0), (1, .int x1), (2, .long x2), (4, .long x4)] [] hu9 nx 0 0
      refine r_aload_n 0 dX10_start_29 rfl rfl ?_
      refine r_getf (ci := 11) (kf := 19) (T := TX10) rfl in_X10 (by decide) wF_X10_37 dX10_start_30 (MAt.o_ HMu9) rfl ?_
      show Blk g M_X10_start (pM x0 h0 nx Q) 33 [(0, .ref x0), (1, .int x1), (2, .long x2), (4, .long x4)] [.ref (x0 + 10)] hu9 nx 0 0
      refine r_iload_n 1 dX10_start_33 rfl rfl ?_
      refine r_lload_n 2 dX10_start_34 rfl rfl ?_
      refine r_l2i dX10_start_35 ?_
      obtain ⟨j10, e11, V⟩ := V
      obtain ⟨z12, e13, V⟩ := V
      refine Blk.to (st' := [.int (nI z12), .int x1, .ref (x0 + 10)]) ?_ ⟨rfl, by rw [e13], rfl⟩
      obtain ⟨c, V⟩ := V
      refine r_iastH dX10_start_36 (MAt.g_sa HMu9) e11 c (by decide) ?_
      obtain ⟨hu14, eu14, HMu14, HOu14⟩ := mo_sa HMu9 HOu9 (va_up s4.sa j10 z12)
      refine Blk.eqs ?_ rfl rfl eu14
      replace HMu14 : MAt hu14 x0 (MV.u_sa (MV.u_st s4 1) (va_up s4.sa j10 z12)) := HMu14
      show Blk g M_X10_start (pM x0 h0 nx Q) 37 [(0, .ref x0), (1, .int x1), (2, .long x2), (4, .long x4)] [] hu14 nx 0 0
      refine r_aload_n 0 dX10_start_37 rfl rfl ?_
      refine r_getf (ci := 11) (kf := 20) (T := TX10) rfl in_X10 (by decide) wF_X10_40 dX10_start_38 (MAt.o_ HMu14) rfl ?_
      show Blk g M_X10_start (pM x0 h0 nx Q) 41 [(0, .ref x0), (1, .int x1), (2, .long x2), (4, .long x4)] [.ref (x0 + 11)] hu14 nx 0 0
      refine r_iload_n 1 dX10_start_41 rfl rfl ?_
      refine r_lload 3 dX10_start_42 rfl ?_
      refine r_l2i dX10_start_44 ?_
      obtain ⟨j15, e16, V⟩ := V
      obtain ⟨z17, e18, V⟩ := V
      refine Blk.to (st' := [.int (nI z17), .int x1, .ref (x0 + 11)]) ?_ ⟨rfl, by rw [e18], rfl⟩
      obtain ⟨c, V⟩ := V
      refine r_iastH dX10_start_45 (MAt.g_sb HMu14) e16 c (by decide) ?_
      obtain ⟨hu19, eu19, HMu19, HOu19⟩ := mo_sb HMu14 HOu14 (va_up s4.sb j15 z17)
      refine Blk.eqs ?_ rfl rfl eu19
      replace HMu19 : MAt hu19 x0 (MV.u_sb (MV.u_sa (MV.u_st s4 1) (va_up s4.sa j10 z12)) (va_up s4.sb j15 z17)) := HMu19
      show Blk g M_X10_start (pM x0 h0 nx Q) 46 [(0, .ref x0), (1, .int x1), (2, .long x2), (4, .long x4)] [] hu19 nx 0 0
      refine r_aload_n 0 dX10_start_46 rfl rfl ?_
      refine r_iconst (v := (nI 0)) dX10_start_47 rfl ?_
      refine r_putf (ci := 11) (kf := 31) (T := TX10) rfl in_X10 tyX10_ok nmX10 (by decide) wF_X10_116 rfl (tyX10_ok 31 (by decide)) dX10_start_48 (MAt.o_ HMu19) (Nat.le_of_ble_eq_true rfl) rfl rfl ?_
      obtain ⟨hu20, eu20, HMu20, HOu20⟩ := mo_o HMu19 HOu19 s4.cd s4.n s4.sz s4.wn s4.at_ s4.wr s4.ru s4.dn s4.lm 1 0 s4.up
      refine Blk.eqs ?_ rfl rfl eu20
      replace HMu20 : MAt hu20 x0 (MV.u_fr (MV.u_sb (MV.u_sa (MV.u_st s4 1) (va_up s4.sa j10 z12)) (va_up s4.sb j15 z17)) 0) := HMu20
      show Blk g M_X10_start (pM x0 h0 nx Q) 51 [(0, .ref x0), (1, .int x1), (2, .long x2), (4, .long x4)] [] hu20 nx 0 0
      refine r_iconst (v := (nI 1)) dX10_start_51 rfl ?_
      exact r_zret (ty := .boolean) dX10_start_52 rfl rfl (by decide) (by decide) ⟨rfl, HOu20, _, HMu20, V⟩
    · have V := V.2 c
      refine r_iconst (v := (nI 0)) dX10_start_22 rfl ?_
      exact r_zret (ty := .boolean) dX10_start_23 rfl rfl (by decide) (by decide) ⟨rfl, HOh2, _, HMh2, V⟩
set_option maxRecDepth 20000 in
theorem v_X10_tell_w_0 {g : xG} {Q : mQ} {s : MV} {x0 : Nat} {x3 : Int32} {x4 : Int32} {x5 : Int32} {x6 : Int64} {x8 : Int64} (V : (CtP g M_X10_in [.long (x3.toInt64), .long (lN 0), .long (lN 10)] (fun r => ∃ v4 : Nat, r = some (.int (nI v4)) ∧ (v4 < 2 ^ 31 ∧ ((v4 = 0 → (Q (some (.int (nI 0))) (MV.u_cd s 0))) ∧ (¬ v4 = 0 → (CtM g M_X10_isState [.ref x0, .int x4] x0 (MV.u_cd s 0) (fun r s7 => ∃ v8 : Nat, r = some (.int (nI v8)) ∧ (v8 < 2 ^ 31 ∧ ((v8 = 0 → (Q (some (.int (nI 0))) s7)) ∧ (¬ v8 = 0 → (CtM g M_X10_isState [.ref x0, .int x5] x0 s7 (fun r s11 => ∃ v12 : Nat, r = some (.int (nI v12)) ∧ (v12 < 2 ^ 31 ∧ ((v12 = 0 → (Q (some (.int (nI 0))) s11)) ∧ (¬ v12 = 0 → ((x4 = x5 → (Q (some (.int (nI 0))) s11)) ∧ (¬ x4 = x5 → (CtP g M_X10_isFraction [.long x6, .long x8] (fun r => ∃ v15 : Nat, r = some (.int (nI v15)) ∧ (v15 < 2 ^ 31 ∧ ((v15 = 0 → (Q (some (.int (nI 0))) s11)) ∧ (¬ v15 = 0 → (∃ j16 : Nat, x3 = nI j16 ∧ j16 < 11 ∧ (((s11.wc j16) < 2 ^ 31 ∧ 12 < 2 ^ 31) ∧ ((¬ (s11.wc j16) = 12 → (∃ j18 : Nat, x3 = nI j18 ∧ j18 < 11 ∧ (∃ j20 : Nat, ((nI 4) * (((nI 12) * x3) + (nI (s11.wc j18)))) = nI j20 ∧ ∃ z22 : Nat, x4 = nI z22 ∧ j20 < 528 ∧ (∃ j25 : Nat, (((nI 4) * (((nI 12) * x3) + (nI (s11.wc j18)))) + (nI 1)) = nI j25 ∧ ∃ z27 : Nat, x5 = nI z27 ∧ j25 < 528 ∧ (∃ j30 : Nat, (((nI 4) * (((nI 12) * x3) + (nI (s11.wc j18)))) + (nI 2)) = nI j30 ∧ ∃ z32 : Nat, (x6.toInt32) = nI z32 ∧ j30 < 528 ∧ (∃ j35 : Nat, (((nI 4) * (((nI 12) * x3) + (nI (s11.wc j18)))) + (nI 3)) = nI j35 ∧ ∃ z37 : Nat, (x8.toInt32) = nI z37 ∧ j35 < 528 ∧ (∃ j40 : Nat, x3 = nI j40 ∧ j40 < 11 ∧ (∃ j42 : Nat, x3 = nI j42 ∧ j42 < 11 ∧ (Q (some (.int (nI 1))) (MV.u_fr (MV.u_wc (MV.u_wk s11 (va_up (va_up (va_up (va_up s11.wk j20 z22) j25 z27) j30 z32) j35 z37)) (va_up s11.wc j42 ((s11.wc j40) + 1))) 0)))))))))) ∧ ((s11.wc j16) = 12 → (Q (some (.int (nI 0))) s11)))))))))))))))))))))))))))) : BlkM g M_X10_tell x0 Q 0 [(0, .ref x0), (1, .ref (x0 + 13)), (2, .ref (x0 + 12)), (3, .int x3), (4, .int x4), (5, .int x5), (6, .long x6), (8, .long x8)] [] s := by
  intro h0 h nx HO HM
  refine r_aload_n 0 dX10_tell_0 rfl rfl ?_
  refine r_iconst (v := (nI 0)) dX10_tell_1 rfl ?_
  refine r_putf (ci := 11) (kf := 0) (T := TX10) rfl in_X10 tyX10_ok nmX10 (by decide) wF_X10_91 rfl (tyX10_ok 0 (by decide)) dX10_tell_2 (MAt.o_ HM) (Nat.le_of_ble_eq_true rfl) rfl rfl ?_
  obtain ⟨hu1, eu1, HMu1, HOu1⟩ := mo_o HM HO 0 s.n s.sz s.wn s.at_ s.wr s.ru s.dn s.lm s.st s.fr s.up
  refine Blk.eqs ?_ rfl rfl eu1
  replace HMu1 : MAt hu1 x0 (MV.u_cd s 0) := HMu1
  show Blk g M_X10_tell (pM x0 h0 nx Q) 5 [(0, .ref x0), (1, .ref (x0 + 13)), (2, .ref (x0 + 12)), (3, .int x3), (4, .int x4), (5, .int x5), (6, .long x6), (8, .long x8)] [] hu1 nx 0 0
  refine r_iload_n 3 dX10_tell_5 rfl rfl ?_
  refine r_i2l dX10_tell_6 ?_
  refine r_lconst (v := (lN 0)) dX10_tell_7 rfl ?_
  refine r_ldc2 (v := (lN 10)) wL_X10_290 dX10_tell_8 ?_
  refine r_callS (M2 := M_X10_in) (n := 3) (As := [.long (x3.toInt64), .long (lN 0), .long (lN 10)]) (wl4 wM_X10_94 ws_X10_in wI_StateSharesModel wc_X10_in) (by decide +kernel) (by decide) rfl rfl (Nat.le_of_ble_eq_true rfl) dX10_tell_11 (by decide) (by decide) (Ct.imp (V _ _) (fun r h2 n3 V => ?_))
  obtain ⟨rfl, rfl, V⟩ := V
  obtain ⟨v4, rfl, V⟩ := V
  show Blk g M_X10_tell (pM x0 h0 nx Q) 14 [(0, .ref x0), (1, .ref (x0 + 13)), (2, .ref (x0 + 12)), (3, .int x3), (4, .int x4), (5, .int x5), (6, .long x6), (8, .long x8)] [.int (nI v4)] hu1 nx 0 0
  obtain ⟨c, V⟩ := V
  refine r_if_eqN (tgt := 56) dX10_tell_14 (by decide) c (fun c => ?_) (fun c => ?_)
  · have V := V.1 c
    refine r_iconst (v := (nI 0)) dX10_tell_56 rfl ?_
    refine r_istore (L' := [(10, .int (nI 0)), (0, .ref x0), (1, .ref (x0 + 13)), (2, .ref (x0 + 12)), (3, .int x3), (4, .int x4), (5, .int x5), (6, .long x6), (8, .long x8)]) dX10_tell_57 (by decide) rfl ?_
    refine r_iload 0 dX10_tell_59 rfl ?_
    refine r_if_eqN (tgt := 72) dX10_tell_61 (by decide) (by decide) (fun _ => ?_) (fun c => absurd c (by decide))
    refine r_iconst (v := (nI 0)) dX10_tell_72 rfl ?_
    exact r_zret (ty := .boolean) dX10_tell_73 rfl rfl (by decide) (by decide) ⟨rfl, HOu1, _, HMu1, V⟩
  · have V := V.2 c
    refine r_aload_n 0 dX10_tell_17 rfl rfl ?_
    refine r_iload 4 dX10_tell_18 rfl ?_
    refine r_callV (M2 := M_X10_isState) (ci := 11) (n := 1) (As := [.int x4]) rfl (wl5 wM_X10_108 wi_X10_isState wS_X10_isState wI_StateSharesModel wc_X10_isState) (by decide +kernel) (by decide) rfl rfl (Nat.le_of_ble_eq_true rfl) dX10_tell_20 (MAt.o_ HMu1) (by decide) (by decide) (Ct.imp (V _ _ HMu1) (fun r h5 n6 V => ?_))
    obtain ⟨rfl, Oh5, s7, HMh5, V⟩ := V
    have HOh5 := Off.tr HOu1 Oh5
    obtain ⟨v8, rfl, V⟩ := V
    show Blk g M_X10_tell (pM x0 h0 nx Q) 23 [(0, .ref x0), (1, .ref (x0 + 13)), (2, .ref (x0 + 12)), (3, .int x3), (4, .int x4), (5, .int x5), (6, .long x6), (8, .long x8)] [.int (nI v8)] h5 nx 0 0
    obtain ⟨c, V⟩ := V
    refine r_if_eqN (tgt := 56) dX10_tell_23 (by decide) c (fun c => ?_) (fun c => ?_)
    · have V := V.1 c
      refine r_iconst (v := (nI 0)) dX10_tell_56 rfl ?_
      refine r_istore (L' := [(10, .int (nI 0)), (0, .ref x0), (1, .ref (x0 + 13)), (2, .ref (x0 + 12)), (3, .int x3), (4, .int x4), (5, .int x5), (6, .long x6), (8, .long x8)]) dX10_tell_57 (by decide) rfl ?_
      refine r_iload 0 dX10_tell_59 rfl ?_
      refine r_if_eqN (tgt := 72) dX10_tell_61 (by decide) (by decide) (fun _ => ?_) (fun c => absurd c (by decide))
      refine r_iconst (v := (nI 0)) dX10_tell_72 rfl ?_
      exact r_zret (ty := .boolean) dX10_tell_73 rfl rfl (by decide) (by decide) ⟨rfl, HOh5, _, HMh5, V⟩
    · have V := V.2 c
      refine r_aload_n 0 dX10_tell_26 rfl rfl ?_
      refine r_iload 5 dX10_tell_27 rfl ?_
      refine r_callV (M2 := M_X10_isState) (ci := 11) (n := 1) (As := [.int x5]) rfl (wl5 wM_X10_108 wi_X10_isState wS_X10_isState wI_StateSharesModel wc_X10_isState) (by decide +kernel) (by decide) rfl rfl (Nat.le_of_ble_eq_true rfl) dX10_tell_29 (MAt.o_ HMh5) (by decide) (by decide) (Ct.imp (V _ _ HMh5) (fun r h9 n10 V => ?_))
      obtain ⟨rfl, Oh9, s11, HMh9, V⟩ := V
      have HOh9 := Off.tr HOh5 Oh9
      obtain ⟨v12, rfl, V⟩ := V
      show Blk g M_X10_tell (pM x0 h0 nx Q) 32 [(0, .ref x0), (1, .ref (x0 + 13)), (2, .ref (x0 + 12)), (3, .int x3), (4, .int x4), (5, .int x5), (6, .long x6), (8, .long x8)] [.int (nI v12)] h9 nx 0 0
      obtain ⟨c, V⟩ := V
      refine r_if_eqN (tgt := 56) dX10_tell_32 (by decide) c (fun c => ?_) (fun c => ?_)
      · have V := V.1 c
        refine r_iconst (v := (nI 0)) dX10_tell_56 rfl ?_
        refine r_istore (L' := [(10, .int (nI 0)), (0, .ref x0), (1, .ref (x0 + 13)), (2, .ref (x0 + 12)), (3, .int x3), (4, .int x4), (5, .int x5), (6, .long x6), (8, .long x8)]) dX10_tell_57 (by decide) rfl ?_
        refine r_iload 0 dX10_tell_59 rfl ?_
        refine r_if_eqN (tgt := 72) dX10_tell_61 (by decide) (by decide) (fun _ => ?_) (fun c => absurd c (by decide))
        refine r_iconst (v := (nI 0)) dX10_tell_72 rfl ?_
        exact r_zret (ty := .boolean) dX10_tell_73 rfl rfl (by decide) (by decide) ⟨rfl, HOh9, _, HMh9, V⟩
      · have V := V.2 c
        refine r_iload 4 dX10_tell_35 rfl ?_
        refine r_iload 5 dX10_tell_37 rfl ?_
        refine r_icmp_eq (tgt := 56) dX10_tell_39 (by decide) (fun c => ?_) (fun c => ?_)
        · have V := V.1 c
          refine r_iconst (v := (nI 0)) dX10_tell_56 rfl ?_
          refine r_istore (L' := [(10, .int (nI 0)), (0, .ref x0), (1, .ref (x0 + 13)), (2, .ref (x0 + 12)), (3, .int x3), (4, .int x4), (5, .int x5), (6, .long x6), (8, .long x8)]) dX10_tell_57 (by decide) rfl ?_
          refine r_iload 0 dX10_tell_59 rfl ?_
          refine r_if_eqN (tgt := 72) dX10_tell_61 (by decide) (by decide) (fun _ => ?_) (fun c => absurd c (by decide))
          refine r_iconst (v := (nI 0)) dX10_tell_72 rfl ?_
          exact r_zret (ty := .boolean) dX10_tell_73 rfl rfl (by decide) (by decide) ⟨rfl, HOh9, _, HMh9, V⟩
        · have V := V.2 c
          refine r_lload 6 dX10_tell_42 rfl ?_
          refine r_lload 7 dX10_tell_44 rfl ?_
          refine r_callS (M2 := M_X10_isFraction) (n := 2) (As := [.long x6, .long x8]) (wl4 wM_X10_286 ws_X10_isFraction wI_StateSharesModel wc_X10_isFraction) (by decide +kernel) (by decide) rfl rfl (Nat.le_of_ble_eq_true rfl) dX10_tell_46 (by decide) (by decide) (Ct.imp (V _ _) (fun r h13 n14 V => ?_))
          obtain ⟨rfl, rfl, V⟩ := V
          obtain ⟨v15, rfl, V⟩ := V
          show Blk g M_X10_tell (pM x0 h0 nx Q) 49 [(0, .ref x0), (1, .ref (x0 + 13)), (2, .ref (x0 + 12)), (3, .int x3), (4, .int x4), (5, .int x5), (6, .long x6), (8, .long x8)] [.int (nI v15)] h9 nx 0 0
          obtain ⟨c, V⟩ := V
          refine r_if_eqN (tgt := 56) dX10_tell_49 (by decide) c (fun c => ?_) (fun c => ?_)
          · have V := V.1 c
            refine r_iconst (v := (nI 0)) dX10_tell_56 rfl ?_
            refine r_istore (L' := [(10, .int (nI 0)), (0, .ref x0), (1, .ref (x0 + 13)), (2, .ref (x0 + 12)), (3, .int x3), (4, .int x4), (5, .int x5), (6, .long x6), (8, .long x8)]) dX10_tell_57 (by decide) rfl ?_
            refine r_iload 0 dX10_tell_59 rfl ?_
            refine r_if_eqN (tgt := 72) dX10_tell_61 (by decide) (by decide) (fun _ => ?_) (fun c => absurd c (by decide))
            refine r_iconst (v := (nI 0)) dX10_tell_72 rfl ?_
            exact r_zret (ty := .boolean) dX10_tell_73 rfl rfl (by decide) (by decide) ⟨rfl, HOh9, _, HMh9, V⟩
          · have V := V.2 c
            refine r_iconst (v := (nI 1)) dX10_tell_52 rfl ?_
            refine r_goto (tgt := 57) dX10_tell_53 (by decide) ?_
            refine r_istore (L' := [(10, .int (nI 1)), (0, .ref x0), (1, .ref (x0 + 13)), (2, .ref (x0 + 12)), (3, .int x3), (4, .int x4), (5, .int x5), (6, .long x6), (8, .long x8)]) dX10_tell_57 (by decide) rfl ?_
            refine r_iload 0 dX10_tell_59 rfl ?_
            refine r_if_eqN (tgt := 72) dX10_tell_61 (by decide) (by decide) (fun c => absurd c (by decide)) (fun _ => ?_)
            refine r_aload_n 3 dX10_tell_64 rfl rfl ?_
            refine r_iload_n 4 dX10_tell_65 rfl rfl ?_
            obtain ⟨j16, e17, V⟩ := V
            obtain ⟨c, V⟩ := V
            refine r_iald dX10_tell_66 (MAt.g_wc HMh9) e17 c (by decide) ?_
            show Blk g M_X10_tell (pM x0 h0 nx Q) 67 [(10, .int (nI 1)), (0, .ref x0), (1, .ref (x0 + 13)), (2, .ref (x0 + 12)), (3, .int x3), (4, .int x4), (5, .int x5), (6, .long x6), (8, .long x8)] [.int (nI (s11.wc j16))] h9 nx 0 0
            refine r_bipush (v := (nI 12)) dX10_tell_67 rfl ?_
            obtain ⟨c, V⟩ := V
            refine r_icmp_neN (tgt := 74) dX10_tell_69 (by decide) c (fun c => ?_) (fun c => ?_)
            · have V := V.1 c
              refine r_iconst (v := (nI 4)) dX10_tell_74 rfl ?_
              refine r_bipush (v := (nI 12)) dX10_tell_75 rfl ?_
              refine r_iload_n 4 dX10_tell_77 rfl rfl ?_
              refine r_imul dX10_tell_78 ?_
              refine r_aload_n 3 dX10_tell_79 rfl rfl ?_
              refine r_iload_n 4 dX10_tell_80 rfl rfl ?_
              obtain ⟨j18, e19, V⟩ := V
              obtain ⟨c, V⟩ := V
              refine r_iald dX10_tell_81 (MAt.g_wc HMh9) e19 c (by decide) ?_
              show Blk g M_X10_tell (pM x0 h0 nx Q) 82 [(10, .int (nI 1)), (0, .ref x0), (1, .ref (x0 + 13)), (2, .ref (x0 + 12)), (3, .int x3), (4, .int x4), (5, .int x5), (6, .long x6), (8, .long x8)] [.int (nI (s11.wc j18)), .int ((nI 12) * x3), .int (nI 4)] h9 nx 0 0
              refine r_iadd dX10_tell_82 ?_
              refine r_imul dX10_tell_83 ?_
              refine r_istore (L' := [(11, .int ((nI 4) * (((nI 12) * x3) + (nI (s11.wc j18))))), (10, .int (nI 1)), (0, .ref x0), (1, .ref (x0 + 13)), (2, .ref (x0 + 12)), (3, .int x3), (4, .int x4), (5, .int x5), (6, .long x6), (8, .long x8)]) dX10_tell_84 (by decide) rfl ?_
              refine r_aload_n 3 dX10_tell_86 rfl rfl ?_
              refine r_iload 0 dX10_tell_87 rfl ?_
              refine r_iload 6 dX10_tell_89 rfl ?_
              obtain ⟨j20, e21, V⟩ := V
              obtain ⟨z22, e23, V⟩ := V
              refine Blk.to (st' := [.int (nI z22), .int ((nI 4) * (((nI 12) * x3) + (nI (s11.wc j18)))), .ref (x0 + 13)]) ?_ ⟨rfl, by rw [e23], rfl⟩
              obtain ⟨c, V⟩ := V
              refine r_iastH dX10_tell_91 (MAt.g_wk HMh9) e21 c (by decide) ?_
              obtain ⟨hu24, eu24, HMu24, HOu24⟩ := mo_wk HMh9 HOh9 (va_up s11.wk j20 z22)
              refine Blk.eqs ?_ rfl rfl eu24
              replace HMu24 : MAt hu24 x0 (MV.u_wk s11 (va_up s11.wk j20 z22)) := HMu24
              show Blk g M_X10_tell (pM x0 h0 nx Q) 92 [(11, .int ((nI 4) * (((nI 12) * x3) + (nI (s11.wc j18))))), (10, .int (nI 1)), (0, .ref x0), (1, .ref (x0 + 13)), (2, .ref (x0 + 12)), (3, .int x3), (4, .int x4), (5, .int x5), (6, .long x6), (8, .long x8)] [] hu24 nx 0 0
              refine r_aload_n 3 dX10_tell_92 rfl rfl ?_
              refine r_iload 0 dX10_tell_93 rfl ?_
              refine r_iconst (v := (nI 1)) dX10_tell_95 rfl ?_
              refine r_iadd dX10_tell_96 ?_
              refine r_iload 7 dX10_tell_97 rfl ?_
              obtain ⟨j25, e26, V⟩ := V
              obtain ⟨z27, e28, V⟩ := V
              refine Blk.to (st' := [.int (nI z27), .int (((nI 4) * (((nI 12) * x3) + (nI (s11.wc j18)))) + (nI 1)), .ref (x0 + 13)]) ?_ ⟨rfl, by rw [e28], rfl⟩
              obtain ⟨c, V⟩ := V
              refine r_iastH dX10_tell_99 (MAt.g_wk HMu24) e26 c (by decide) ?_
              obtain ⟨hu29, eu29, HMu29, HOu29⟩ := mo_wk HMu24 HOu24 (va_up (va_up s11.wk j20 z22) j25 z27)
              refine Blk.eqs ?_ rfl rfl eu29
              replace HMu29 : MAt hu29 x0 (MV.u_wk s11 (va_up (va_up s11.wk j20 z22) j25 z27)) := HMu29
              show Blk g M_X10_tell (pM x0 h0 nx Q) 100 [(11, .int ((nI 4) * (((nI 12) * x3) + (nI (s11.wc j18))))), (10, .int (nI 1)), (0, .ref x0), (1, .ref (x0 + 13)), (2, .ref (x0 + 12)), (3, .int x3), (4, .int x4), (5, .int x5), (6, .long x6), (8, .long x8)] [] hu29 nx 0 0
              refine r_aload_n 3 dX10_tell_100 rfl rfl ?_
              refine r_iload 0 dX10_tell_101 rfl ?_
              refine r_iconst (v := (nI 2)) dX10_tell_103 rfl ?_
              refine r_iadd dX10_tell_104 ?_
              refine r_lload 8 dX10_tell_105 rfl ?_
              refine r_l2i dX10_tell_107 ?_
              obtain ⟨j30, e31, V⟩ := V
              obtain ⟨z32, e33, V⟩ := V
              refine Blk.to (st' := [.int (nI z32), .int (((nI 4) * (((nI 12) * x3) + (nI (s11.wc j18)))) + (nI 2)), .ref (x0 + 13)]) ?_ ⟨rfl, by rw [e33], rfl⟩
              obtain ⟨c, V⟩ := V
              refine r_iastH dX10_tell_108 (MAt.g_wk HMu29) e31 c (by decide) ?_
              obtain ⟨hu34, eu34, HMu34, HOu34⟩ := mo_wk HMu29 HOu29 (va_up (va_up (va_up s11.wk j20 z22) j25 z27) j30 z32)
              refine Blk.eqs ?_ rfl rfl eu34
              replace HMu34 : MAt hu34 x0 (MV.u_wk s11 (va_up (va_up (va_up s11.wk j20 z22) j25 z27) j30 z32)) := HMu34
              show Blk g M_X10_tell (pM x0 h0 nx Q) 109 [(11, .int ((nI 4) * (((nI 12) * x3) + (nI (s11.wc j18))))), (10, .int (nI 1)), (0, .ref x0), (1, .ref (x0 + 13)), (2, .ref (x0 + 12)), (3, .int x3), (4, .int x4), (5, .int x5), (6, .long x6), (8, .long x8)] [] hu34 nx 0 0
              refine r_aload_n 3 dX10_tell_109 rfl rfl ?_
              refine r_iload 0 dX10_tell_110 rfl ?_
              refine r_iconst (v := (nI 3)) dX10_tell_112 rfl ?_
              refine r_iadd dX10_tell_113 ?_
              refine r_lload 9 dX10_tell_114 rfl ?_
              refine r_l2i dX10_tell_116 ?_
              obtain ⟨j35, e36, V⟩ := V
              obtain ⟨z37, e38, V⟩ := V
              refine Blk.to (st' := [.int (nI z37), .int (((nI 4) * (((nI 12) * x3) + (nI (s11.wc j18)))) + (nI 3)), .ref (x0 + 13)]) ?_ ⟨rfl, by rw [e38], rfl⟩
              obtain ⟨c, V⟩ := V
              refine r_iastH dX10_tell_117 (MAt.g_wk HMu34) e36 c (by decide) ?_
              obtain ⟨hu39, eu39, HMu39, HOu39⟩ := mo_wk HMu34 HOu34 (va_up (va_up (va_up (va_up s11.wk j20 z22) j25 z27) j30 z32) j35 z37)
              refine Blk.eqs ?_ rfl rfl eu39
              replace HMu39 : MAt hu39 x0 (MV.u_wk s11 (va_up (va_up (va_up (va_up s11.wk j20 z22) j25 z27) j30 z32) j35 z37)) := HMu39
              show Blk g M_X10_tell (pM x0 h0 nx Q) 118 [(11, .int ((nI 4) * (((nI 12) * x3) + (nI (s11.wc j18))))), (10, .int (nI 1)), (0, .ref x0), (1, .ref (x0 + 13)), (2, .ref (x0 + 12)), (3, .int x3), (4, .int x4), (5, .int x5), (6, .long x6), (8, .long x8)] [] hu39 nx 0 0
              refine r_aload_n 4 dX10_tell_118 rfl rfl ?_
              refine r_iload_n 5 dX10_tell_119 rfl rfl ?_
              refine r_dup2_11 dX10_tell_120 rfl rfl ?_
              obtain ⟨j40, e41, V⟩ := V
              obtain ⟨c, V⟩ := V
              refine r_iald dX10_tell_121 (MAt.g_wc HMu39) e41 c (by decide) ?_
              show Blk g M_X10_tell (pM x0 h0 nx Q) 122 [(11, .int ((nI 4) * (((nI 12) * x3) + (nI (s11.wc j18))))), (10, .int (nI 1)), (0, .ref x0), (1, .ref (x0 + 13)), (2, .ref (x0 + 12)), (3, .int x3), (4, .int x4), (5, .int x5), (6, .long x6), (8, .long x8)] [.int (nI (s11.wc j40)), .int x3, .ref (x0 + 12)] hu39 nx 0 0
              refine r_iconst (v := (nI 1)) dX10_tell_122 rfl ?_
              refine r_iaddN dX10_tell_123 ?_
              obtain ⟨j42, e43, V⟩ := V
              obtain ⟨c, V⟩ := V
              refine r_iastH dX10_tell_124 (MAt.g_wc HMu39) e43 c (by decide) ?_
              obtain ⟨hu44, eu44, HMu44, HOu44⟩ := mo_wc HMu39 HOu39 (va_up s11.wc j42 ((s11.wc j40) + 1))
              refine Blk.eqs ?_ rfl rfl eu44
              replace HMu44 : MAt hu44 x0 (MV.u_wc (MV.u_wk s11 (va_up (va_up (va_up (va_up s11.wk j20 z22) j25 z27) j30 z32) j35 z37)) (va_up s11.wc j42 ((s11.wc j40) + 1))) := HMu44
              show Blk g M_X10_tell (pM x0 h0 nx Q) 125 [(11, .int ((nI 4) * (((nI 12) * x3) + (nI (s11.wc j18))))), (10, .int (nI 1)), (0, .ref x0), (1, .ref (x0 + 13)), (2, .ref (x0 + 12)), (3, .int x3), (4, .int x4), (5, .int x5), (6, .long x6), (8, .long x8)] [] hu44 nx 0 0
              refine r_aload_n 2 dX10_tell_125 rfl rfl ?_
              refine r_iconst (v := (nI 0)) dX10_tell_126 rfl ?_
              refine r_putf (ci := 11) (kf := 31) (T := TX10) rfl in_X10 tyX10_ok nmX10 (by decide) wF_X10_116 rfl (tyX10_ok 31 (by decide)) dX10_tell_127 (MAt.o_ HMu44) (Nat.le_of_ble_eq_true rfl) rfl rfl ?_
              obtain ⟨hu45, eu45, HMu45, HOu45⟩ := mo_o HMu44 HOu44 s11.cd s11.n s11.sz s11.wn s11.at_ s11.wr s11.ru s11.dn s11.lm s11.st 0 s11.up
              refine Blk.eqs ?_ rfl rfl eu45
              replace HMu45 : MAt hu45 x0 (MV.u_fr (MV.u_wc (MV.u_wk s11 (va_up (va_up (va_up (va_up s11.wk j20 z22) j25 z27) j30 z32) j35 z37)) (va_up s11.wc j42 ((s11.wc j40) + 1))) 0) := HMu45
              show Blk g M_X10_tell (pM x0 h0 nx Q) 130 [(11, .int ((nI 4) * (((nI 12) * x3) + (nI (s11.wc j18))))), (10, .int (nI 1)), (0, .ref x0), (1, .ref (x0 + 13)), (2, .ref (x0 + 12)), (3, .int x3), (4, .int x4), (5, .int x5), (6, .long x6), (8, .long x8)] [] hu45 nx 0 0
              refine r_iconst (v := (nI 1)) dX10_tell_130 rfl ?_
              exact r_zret (ty := .boolean) dX10_tell_131 rfl rfl (by decide) (by decide) ⟨rfl, HOu45, _, HMu45, V⟩
            · have V := V.2 c
              refine r_iconst (v := (nI 0)) dX10_tell_72 rfl ?_
              exact r_zret (ty := .boolean) dX10_tell_73 rfl rfl (by decide) (by decide) ⟨rfl, HOh9, _, HMh9, V⟩
set_option maxRecDepth 20000 in
theorem v_X10_tell_e_0 {g : xG} {Q : mQ} {s : MV} {x0 : Nat} {x3 : Int32} {x4 : Int32} {x5 : Int32} {x6 : Int64} {x8 : Int64} (V : (CtP g M_X10_in [.long (x3.toInt64), .long (lN 0), .long (lN 10)] (fun r => ∃ v4 : Nat, r = some (.int (nI v4)) ∧ (v4 < 2 ^ 31 ∧ ((v4 = 0 → (Q (some (.int (nI 0))) (MV.u_cd s 0))) ∧ (¬ v4 = 0 → (CtM g M_X10_isState [.ref x0, .int x4] x0 (MV.u_cd s 0) (fun r s7 => ∃ v8 : Nat, r = some (.int (nI v8)) ∧ (v8 < 2 ^ 31 ∧ ((v8 = 0 → (Q (some (.int (nI 0))) s7)) ∧ (¬ v8 = 0 → (CtM g M_X10_isState [.ref x0, .int x5] x0 s7 (fun r s11 => ∃ v12 : Nat, r = some (.int (nI v12)) ∧ (v12 < 2 ^ 31 ∧ ((v12 = 0 → (Q (some (.int (nI 0))) s11)) ∧ (¬ v12 = 0 → ((x4 = x5 → (Q (some (.int (nI 0))) s11)) ∧ (¬ x4 = x5 → (CtP g M_X10_isFraction [.long x6, .long x8] (fun r => ∃ v15 : Nat, r = some (.int (nI v15)) ∧ (v15 < 2 ^ 31 ∧ ((v15 = 0 → (Q (some (.int (nI 0))) s11)) ∧ (¬ v15 = 0 → (∃ j16 : Nat, x3 = nI j16 ∧ j16 < 11 ∧ (((s11.ec j16) < 2 ^ 31 ∧ 12 < 2 ^ 31) ∧ ((¬ (s11.ec j16) = 12 → (∃ j18 : Nat, x3 = nI j18 ∧ j18 < 11 ∧ (∃ j20 : Nat, ((nI 4) * (((nI 12) * x3) + (nI (s11.ec j18)))) = nI j20 ∧ ∃ z22 : Nat, x4 = nI z22 ∧ j20 < 528 ∧ (∃ j25 : Nat, (((nI 4) * (((nI 12) * x3) + (nI (s11.ec j18)))) + (nI 1)) = nI j25 ∧ ∃ z27 : Nat, x5 = nI z27 ∧ j25 < 528 ∧ (∃ j30 : Nat, (((nI 4) * (((nI 12) * x3) + (nI (s11.ec j18)))) + (nI 2)) = nI j30 ∧ ∃ z32 : Nat, (x6.toInt32) = nI z32 ∧ j30 < 528 ∧ (∃ j35 : Nat, (((nI 4) * (((nI 12) * x3) + (nI (s11.ec j18)))) + (nI 3)) = nI j35 ∧ ∃ z37 : Nat, (x8.toInt32) = nI z37 ∧ j35 < 528 ∧ (∃ j40 : Nat, x3 = nI j40 ∧ j40 < 11 ∧ (∃ j42 : Nat, x3 = nI j42 ∧ j42 < 11 ∧ (Q (some (.int (nI 1))) (MV.u_fr (MV.u_ec (MV.u_ev s11 (va_up (va_up (va_up (va_up s11.ev j20 z22) j25 z27) j30 z32) j35 z37)) (va_up s11.ec j42 ((s11.ec j40) + 1))) 0)))))))))) ∧ ((s11.ec j16) = 12 → (Q (some (.int (nI 0))) s11)))))))))))))))))))))))))))) : BlkM g M_X10_tell x0 Q 0 [(0, .ref x0), (1, .ref (x0 + 15)), (2, .ref (x0 + 14)), (3, .int x3), (4, .int x4), (5, .int x5), (6, .long x6), (8, .long x8)] [] s := by
  intro h0 h nx HO HM
  refine r_aload_n 0 dX10_tell_0 rfl rfl ?_
  refine r_iconst (v := (nI 0)) dX10_tell_1 rfl ?_
  refine r_putf (ci := 11) (kf := 0) (T := TX10) rfl in_X10 tyX10_ok nmX10 (by decide) wF_X10_91 rfl (tyX10_ok 0 (by decide)) dX10_tell_2 (MAt.o_ HM) (Nat.le_of_ble_eq_true rfl) rfl rfl ?_
  obtain ⟨hu1, eu1, HMu1, HOu1⟩ := mo_o HM HO 0 s.n s.sz s.wn s.at_ s.wr s.ru s.dn s.lm s.st s.fr s.up
  refine Blk.eqs ?_ rfl rfl eu1
  replace HMu1 : MAt hu1 x0 (MV.u_cd s 0) := HMu1
  show Blk g M_X10_tell (pM x0 h0 nx Q) 5 [(0, .ref x0), (1, .ref (x0 + 15)), (2, .ref (x0 + 14)), (3, .int x3), (4, .int x4), (5, .int x5), (6, .long x6), (8, .long x8)] [] hu1 nx 0 0
  refine r_iload_n 3 dX10_tell_5 rfl rfl ?_
  refine r_i2l dX10_tell_6 ?_
  refine r_lconst (v := (lN 0)) dX10_tell_7 rfl ?_
  refine r_ldc2 (v := (lN 10)) wL_X10_290 dX10_tell_8 ?_
  refine r_callS (M2 := M_X10_in) (n := 3) (As := [.long (x3.toInt64), .long (lN 0), .long (lN 10)]) (wl4 wM_X10_94 ws_X10_in wI_StateSharesModel wc_X10_in) (by decide +kernel) (by decide) rfl rfl (Nat.le_of_ble_eq_true rfl) dX10_tell_11 (by decide) (by decide) (Ct.imp (V _ _) (fun r h2 n3 V => ?_))
  obtain ⟨rfl, rfl, V⟩ := V
  obtain ⟨v4, rfl, V⟩ := V
  show Blk g M_X10_tell (pM x0 h0 nx Q) 14 [(0, .ref x0), (1, .ref (x0 + 15)), (2, .ref (x0 + 14)), (3, .int x3), (4, .int x4), (5, .int x5), (6, .long x6), (8, .long x8)] [.int (nI v4)] hu1 nx 0 0
  obtain ⟨c, V⟩ := V
  refine r_if_eqN (tgt := 56) dX10_tell_14 (by decide) c (fun c => ?_) (fun c => ?_)
  · have V := V.1 c
    refine r_iconst (v := (nI 0)) dX10_tell_56 rfl ?_
    refine r_istore (L' := [(10, .int (nI 0)), (0, .ref x0), (1, .ref (x0 + 15)), (2, .ref (x0 + 14)), (3, .int x3), (4, .int x4), (5, .int x5), (6, .long x6), (8, .long x8)]) dX10_tell_57 (by decide) rfl ?_
    refine r_iload 0 dX10_tell_59 rfl ?_
    refine r_if_eqN (tgt := 72) dX10_tell_61 (by decide) (by decide) (fun _ => ?_) (fun c => absurd c (by decide))
    refine r_iconst (v := (nI 0)) dX10_tell_72 rfl ?_
    exact r_zret (ty := .boolean) dX10_tell_73 rfl rfl (by decide) (by decide) ⟨rfl, HOu1, _, HMu1, V⟩
  · have V := V.2 c
    refine r_aload_n 0 dX10_tell_17 rfl rfl ?_
    refine r_iload 4 dX10_tell_18 rfl ?_
    refine r_callV (M2 := M_X10_isState) (ci := 11) (n := 1) (As := [.int x4]) rfl (wl5 wM_X10_108 wi_X10_isState wS_X10_isState wI_StateSharesModel wc_X10_isState) (by decide +kernel) (by decide) rfl rfl (Nat.le_of_ble_eq_true rfl) dX10_tell_20 (MAt.o_ HMu1) (by decide) (by decide) (Ct.imp (V _ _ HMu1) (fun r h5 n6 V => ?_))
    obtain ⟨rfl, Oh5, s7, HMh5, V⟩ := V
    have HOh5 := Off.tr HOu1 Oh5
    obtain ⟨v8, rfl, V⟩ := V
    show Blk g M_X10_tell (pM x0 h0 nx Q) 23 [(0, .ref x0), (1, .ref (x0 + 15)), (2, .ref (x0 + 14)), (3, .int x3), (4, .int x4), (5, .int x5), (6, .long x6), (8, .long x8)] [.int (nI v8)] h5 nx 0 0
    obtain ⟨c, V⟩ := V
    refine r_if_eqN (tgt := 56) dX10_tell_23 (by decide) c (fun c => ?_) (fun c => ?_)
    · have V := V.1 c
      refine r_iconst (v := (nI 0)) dX10_tell_56 rfl ?_
      refine r_istore (L' := [(10, .int (nI 0)), (0, .ref x0), (1, .ref (x0 + 15)), (2, .ref (x0 + 14)), (3, .int x3), (4, .int x4), (5, .int x5), (6, .long x6), (8, .long x8)]) dX10_tell_57 (by decide) rfl ?_
      refine r_iload 0 dX10_tell_59 rfl ?_
      refine r_if_eqN (tgt := 72) dX10_tell_61 (by decide) (by decide) (fun _ => ?_) (fun c => absurd c (by decide))
      refine r_iconst (v := (nI 0)) dX10_tell_72 rfl ?_
      exact r_zret (ty := .boolean) dX10_tell_73 rfl rfl (by decide) (by decide) ⟨rfl, HOh5, _, HMh5, V⟩
    · have V := V.2 c
      refine r_aload_n 0 dX10_tell_26 rfl rfl ?_
      refine r_iload 5 dX10_tell_27 rfl ?_
      refine r_callV (M2 := M_X10_isState) (ci := 11) (n := 1) (As := [.int x5]) rfl (wl5 wM_X10_108 wi_X10_isState wS_X10_isState wI_StateSharesModel wc_X10_isState) (by decide +kernel) (by decide) rfl rfl (Nat.le_of_ble_eq_true rfl) dX10_tell_29 (MAt.o_ HMh5) (by decide) (by decide) (Ct.imp (V _ _ HMh5) (fun r h9 n10 V => ?_))
      obtain ⟨rfl, Oh9, s11, HMh9, V⟩ := V
      have HOh9 := Off.tr HOh5 Oh9
      obtain ⟨v12, rfl, V⟩ := V
      show Blk g M_X10_tell (pM x0 h0 nx Q) 32 [(0, .ref x0), (1, .ref (x0 + 15)), (2, .ref (x0 + 14)), (3, .int x3), (4, .int x4), (5, .int x5), (6, .long x6), (8, .long x8)] [.int (nI v12)] h9 nx 0 0
      obtain ⟨c, V⟩ := V
      refine r_if_eqN (tgt := 56) dX10_tell_32 (by decide) c (fun c => ?_) (fun c => ?_)
      · have V := V.1 c
        refine r_iconst (v := (nI 0)) dX10_tell_56 rfl ?_
        refine r_istore (L' := [(10, .int (nI 0)), (0, .ref x0), (1, .ref (x0 + 15)), (2, .ref (x0 + 14)), (3, .int x3), (4, .int x4), (5, .int x5), (6, .long x6), (8, .long x8)]) dX10_tell_57 (by decide) rfl ?_
        refine r_iload 0 dX10_tell_59 rfl ?_
        refine r_if_eqN (tgt := 72) dX10_tell_61 (by decide) (by decide) (fun _ => ?_) (fun c => absurd c (by decide))
        refine r_iconst (v := (nI 0)) dX10_tell_72 rfl ?_
        exact r_zret (ty := .boolean) dX10_tell_73 rfl rfl (by decide) (by decide) ⟨rfl, HOh9, _, HMh9, V⟩
      · have V := V.2 c
        refine r_iload 4 dX10_tell_35 rfl ?_
        refine r_iload 5 dX10_tell_37 rfl ?_
        refine r_icmp_eq (tgt := 56) dX10_tell_39 (by decide) (fun c => ?_) (fun c => ?_)
        · have V := V.1 c
          refine r_iconst (v := (nI 0)) dX10_tell_56 rfl ?_
          refine r_istore (L' := [(10, .int (nI 0)), (0, .ref x0), (1, .ref (x0 + 15)), (2, .ref (x0 + 14)), (3, .int x3), (4, .int x4), (5, .int x5), (6, .long x6), (8, .long x8)]) dX10_tell_57 (by decide) rfl ?_
          refine r_iload 0 dX10_tell_59 rfl ?_
          refine r_if_eqN (tgt := 72) dX10_tell_61 (by decide) (by decide) (fun _ => ?_) (fun c => absurd c (by decide))
          refine r_iconst (v := (nI 0)) dX10_tell_72 rfl ?_
          exact r_zret (ty := .boolean) dX10_tell_73 rfl rfl (by decide) (by decide) ⟨rfl, HOh9, _, HMh9, V⟩
        · have V := V.2 c
          refine r_lload 6 dX10_tell_42 rfl ?_
          refine r_lload 7 dX10_tell_44 rfl ?_
          refine r_callS (M2 := M_X10_isFraction) (n := 2) (As := [.long x6, .long x8]) (wl4 wM_X10_286 ws_X10_isFraction wI_StateSharesModel wc_X10_isFraction) (by decide +kernel) (by decide) rfl rfl (Nat.le_of_ble_eq_true rfl) dX10_tell_46 (by decide) (by decide) (Ct.imp (V _ _) (fun r h13 n14 V => ?_))
          obtain ⟨rfl, rfl, V⟩ := V
          obtain ⟨v15, rfl, V⟩ := V
          show Blk g M_X10_tell (pM x0 h0 nx Q) 49 [(0, .ref x0), (1, .ref (x0 + 15)), (2, .ref (x0 + 14)), (3, .int x3), (4, .int x4), (5, .int x5), (6, .long x6), (8, .long x8)] [.int (nI v15)] h9 nx 0 0
          obtain ⟨c, V⟩ := V
          refine r_if_eqN (tgt := 56) dX10_tell_49 (by decide) c (fun c => ?_) (fun c => ?_)
          · have V := V.1 c
            refine r_iconst (v := (nI 0)) dX10_tell_56 rfl ?_
            refine r_istore (L' := [(10, .int (nI 0)), (0, .ref x0), (1, .ref (x0 + 15)), (2, .ref (x0 + 14)), (3, .int x3), (4, .int x4), (5, .int x5), (6, .long x6), (8, .long x8)]) dX10_tell_57 (by decide) rfl ?_
            refine r_iload 0 dX10_tell_59 rfl ?_
            refine r_if_eqN (tgt := 72) dX10_tell_61 (by decide) (by decide) (fun _ => ?_) (fun c => absurd c (by decide))
            refine r_iconst (v := (nI 0)) dX10_tell_72 rfl ?_
            exact r_zret (ty := .boolean) dX10_tell_73 rfl rfl (by decide) (by decide) ⟨rfl, HOh9, _, HMh9, V⟩
          · have V := V.2 c
            refine r_iconst (v := (nI 1)) dX10_tell_52 rfl ?_
            refine r_goto (tgt := 57) dX10_tell_53 (by decide) ?_
            refine r_istore (L' := [(10, .int (nI 1)), (0, .ref x0), (1, .ref (x0 + 15)), (2, .ref (x0 + 14)), (3, .int x3), (4, .int x4), (5, .int x5), (6, .long x6), (8, .long x8)]) dX10_tell_57 (by decide) rfl ?_
            refine r_iload 0 dX10_tell_59 rfl ?_
            refine r_if_eqN (tgt := 72) dX10_tell_61 (by decide) (by decide) (fun c => absurd c (by decide)) (fun _ => ?_)
            refine r_aload_n 3 dX10_tell_64 rfl rfl ?_
            refine r_iload_n 4 dX10_tell_65 rfl rfl ?_
            obtain ⟨j16, e17, V⟩ := V
            obtain ⟨c, V⟩ := V
            refine r_iald dX10_tell_66 (MAt.g_ec HMh9) e17 c (by decide) ?_
            show Blk g M_X10_tell (pM x0 h0 nx Q) 67 [(10, .int (nI 1)), (0, .ref x0), (1, .ref (x0 + 15)), (2, .ref (x0 + 14)), (3, .int x3), (4, .int x4), (5, .int x5), (6, .long x6), (8, .long x8)] [.int (nI (s11.ec j16))] h9 nx 0 0
            refine r_bipush (v := (nI 12)) dX10_tell_67 rfl ?_
            obtain ⟨c, V⟩ := V
            refine r_icmp_neN (tgt := 74) dX10_tell_69 (by decide) c (fun c => ?_) (fun c => ?_)
            · have V := V.1 c
              refine r_iconst (v := (nI 4)) dX10_tell_74 rfl ?_
              refine r_bipush (v := (nI 12)) dX10_tell_75 rfl ?_
              refine r_iload_n 4 dX10_tell_77 rfl rfl ?_
              refine r_imul dX10_tell_78 ?_
              refine r_aload_n 3 dX10_tell_79 rfl rfl ?_
              refine r_iload_n 4 dX10_tell_80 rfl rfl ?_
              obtain ⟨j18, e19, V⟩ := V
              obtain ⟨c, V⟩ := V
              refine r_iald dX10_tell_81 (MAt.g_ec HMh9) e19 c (by decide) ?_
              show Blk g M_X10_tell (pM x0 h0 nx Q) 82 [(10, .int (nI 1)), (0, .ref x0), (1, .ref (x0 + 15)), (2, .ref (x0 + 14)), (3, .int x3), (4, .int x4), (5, .int x5), (6, .long x6), (8, .long x8)] [.int (nI (s11.ec j18)), .int ((nI 12) * x3), .int (nI 4)] h9 nx 0 0
              refine r_iadd dX10_tell_82 ?_
              refine r_imul dX10_tell_83 ?_
              refine r_istore (L' := [(11, .int ((nI 4) * (((nI 12) * x3) + (nI (s11.ec j18))))), (10, .int (nI 1)), (0, .ref x0), (1, .ref (x0 + 15)), (2, .ref (x0 + 14)), (3, .int x3), (4, .int x4), (5, .int x5), (6, .long x6), (8, .long x8)]) dX10_tell_84 (by decide) rfl ?_
              refine r_aload_n 3 dX10_tell_86 rfl rfl ?_
              refine r_iload 0 dX10_tell_87 rfl ?_
              refine r_iload 6 dX10_tell_89 rfl ?_
              obtain ⟨j20, e21, V⟩ := V
              obtain ⟨z22, e23, V⟩ := V
              refine Blk.to (st' := [.int (nI z22), .int ((nI 4) * (((nI 12) * x3) + (nI (s11.ec j18)))), .ref (x0 + 15)]) ?_ ⟨rfl, by rw [e23], rfl⟩
              obtain ⟨c, V⟩ := V
              refine r_iastH dX10_tell_91 (MAt.g_ev HMh9) e21 c (by decide) ?_
              obtain ⟨hu24, eu24, HMu24, HOu24⟩ := mo_ev HMh9 HOh9 (va_up s11.ev j20 z22)
              refine Blk.eqs ?_ rfl rfl eu24
              replace HMu24 : MAt hu24 x0 (MV.u_ev s11 (va_up s11.ev j20 z22)) := HMu24
              show Blk g M_X10_tell (pM x0 h0 nx Q) 92 [(11, .int ((nI 4) * (((nI 12) * x3) + (nI (s11.ec j18))))), (10, .int (nI 1)), (0, .ref x0), (1, .ref (x0 + 15)), (2, .ref (x0 + 14)), (3, .int x3), (4, .int x4), (5, .int x5), (6, .long x6), (8, .long x8)] [] hu24 nx 0 0
              refine r_aload_n 3 dX10_tell_92 rfl rfl ?_
              refine r_iload 0 dX10_tell_93 rfl ?_
              refine r_iconst (v := (nI 1)) dX10_tell_95 rfl ?_
              refine r_iadd dX10_tell_96 ?_
              refine r_iload 7 dX10_tell_97 rfl ?_
              obtain ⟨j25, e26, V⟩ := V
              obtain ⟨z27, e28, V⟩ := V
              refine Blk.to (st' := [.int (nI z27), .int (((nI 4) * (((nI 12) * x3) + (nI (s11.ec j18)))) + (nI 1)), .ref (x0 + 15)]) ?_ ⟨rfl, by rw [e28], rfl⟩
              obtain ⟨c, V⟩ := V
              refine r_iastH dX10_tell_99 (MAt.g_ev HMu24) e26 c (by decide) ?_
              obtain ⟨hu29, eu29, HMu29, HOu29⟩ := mo_ev HMu24 HOu24 (va_up (va_up s11.ev j20 z22) j25 z27)
              refine Blk.eqs ?_ rfl rfl eu29
              replace HMu29 : MAt hu29 x0 (MV.u_ev s11 (va_up (va_up s11.ev j20 z22) j25 z27)) := HMu29
              show Blk g M_X10_tell (pM x0 h0 nx Q) 100 [(11, .int ((nI 4) * (((nI 12) * x3) + (nI (s11.ec j18))))), (10, .int (nI 1)), (0, .ref x0), (1, .ref (x0 + 15)), (2, .ref (x0 + 14)), (3, .int x3), (4, .int x4), (5, .int x5), (6, .long x6), (8, .long x8)] [] hu29 nx 0 0
              refine r_aload_n 3 dX10_tell_100 rfl rfl ?_
              refine r_iload 0 dX10_tell_101 rfl ?_
              refine r_iconst (v := (nI 2)) dX10_tell_103 rfl ?_
              refine r_iadd dX10_tell_104 ?_
              refine r_lload 8 dX10_tell_105 rfl ?_
              refine r_l2i dX10_tell_107 ?_
              obtain ⟨j30, e31, V⟩ := V
              obtain ⟨z32, e33, V⟩ := V
              refine Blk.to (st' := [.int (nI z32), .int (((nI 4) * (((nI 12) * x3) + (nI (s11.ec j18)))) + (nI 2)), .ref (x0 + 15)]) ?_ ⟨rfl, by rw [e33], rfl⟩
              obtain ⟨c, V⟩ := V
              refine r_iastH dX10_tell_108 (MAt.g_ev HMu29) e31 c (by decide) ?_
              obtain ⟨hu34, eu34, HMu34, HOu34⟩ := mo_ev HMu29 HOu29 (va_up (va_up (va_up s11.ev j20 z22) j25 z27) j30 z32)
              refine Blk.eqs ?_ rfl rfl eu34
              replace HMu34 : MAt hu34 x0 (MV.u_ev s11 (va_up (va_up (va_up s11.ev j20 z22) j25 z27) j30 z32)) := HMu34
              show Blk g M_X10_tell (pM x0 h0 nx Q) 109 [(11, .int ((nI 4) * (((nI 12) * x3) + (nI (s11.ec j18))))), (10, .int (nI 1)), (0, .ref x0), (1, .ref (x0 + 15)), (2, .ref (x0 + 14)), (3, .int x3), (4, .int x4), (5, .int x5), (6, .long x6), (8, .long x8)] [] hu34 nx 0 0
              refine r_aload_n 3 dX10_tell_109 rfl rfl ?_
              refine r_iload 0 dX10_tell_110 rfl ?_
              refine r_iconst (v := (nI 3)) dX10_tell_112 rfl ?_
              refine r_iadd dX10_tell_113 ?_
              refine r_lload 9 dX10_tell_114 rfl ?_
              refine r_l2i dX10_tell_116 ?_
              obtain ⟨j35, e36, V⟩ := V
              obtain ⟨z37, e38, V⟩ := V
              refine Blk.to (st' := [.int (nI z37), .int (((nI 4) * (((nI 12) * x3) + (nI (s11.ec j18)))) + (nI 3)), .ref (x0 + 15)]) ?_ ⟨rfl, by rw [e38], rfl⟩
              obtain ⟨c, V⟩ := V
              refine r_iastH dX10_tell_117 (MAt.g_ev HMu34) e36 c (by decide) ?_
              obtain ⟨hu39, eu39, HMu39, HOu39⟩ := mo_ev HMu34 HOu34 (va_up (va_up (va_up (va_up s11.ev j20 z22) j25 z27) j30 z32) j35 z37)
              refine Blk.eqs ?_ rfl rfl eu39
              replace HMu39 : MAt hu39 x0 (MV.u_ev s11 (va_up (va_up (va_up (va_up s11.ev j20 z22) j25 z27) j30 z32) j35 z37)) := HMu39
              show Blk g M_X10_tell (pM x0 h0 nx Q) 118 [(11, .int ((nI 4) * (((nI 12) * x3) + (nI (s11.ec j18))))), (10, .int (nI 1)), (0, .ref x0), (1, .ref (x0 + 15)), (2, .ref (x0 + 14)), (3, .int x3), (4, .int x4), (5, .int x5), (6, .long x6), (8, .long x8)] [] hu39 nx 0 0
              refine r_aload_n 4 dX10_tell_118 rfl rfl ?_
              refine r_iload_n 5 dX10_tell_119 rfl rfl ?_
              refine r_dup2_11 dX10_tell_120 rfl rfl ?_
              obtain ⟨j40, e41, V⟩ := V
              obtain ⟨c, V⟩ := V
              refine r_iald dX10_tell_121 (MAt.g_ec HMu39) e41 c (by decide) ?_
              show Blk g M_X10_tell (pM x0 h0 nx Q) 122 [(11, .int ((nI 4) * (((nI 12) * x3) + (nI (s11.ec j18))))), (10, .int (nI 1)), (0, .ref x0), (1, .ref (x0 + 15)), (2, .ref (x0 + 14)), (3, .int x3), (4, .int x4), (5, .int x5), (6, .long x6), (8, .long x8)] [.int (nI (s11.ec j40)), .int x3, .ref (x0 + 14)] hu39 nx 0 0
              refine r_iconst (v := (nI 1)) dX10_tell_122 rfl ?_
              refine r_iaddN dX10_tell_123 ?_
              obtain ⟨j42, e43, V⟩ := V
              obtain ⟨c, V⟩ := V
              refine r_iastH dX10_tell_124 (MAt.g_ec HMu39) e43 c (by decide) ?_
              obtain ⟨hu44, eu44, HMu44, HOu44⟩ := mo_ec HMu39 HOu39 (va_up s11.ec j42 ((s11.ec j40) + 1))
              refine Blk.eqs ?_ rfl rfl eu44
              replace HMu44 : MAt hu44 x0 (MV.u_ec (MV.u_ev s11 (va_up (va_up (va_up (va_up s11.ev j20 z22) j25 z27) j30 z32) j35 z37)) (va_up s11.ec j42 ((s11.ec j40) + 1))) := HMu44
              show Blk g M_X10_tell (pM x0 h0 nx Q) 125 [(11, .int ((nI 4) * (((nI 12) * x3) + (nI (s11.ec j18))))), (10, .int (nI 1)), (0, .ref x0), (1, .ref (x0 + 15)), (2, .ref (x0 + 14)), (3, .int x3), (4, .int x4), (5, .int x5), (6, .long x6), (8, .long x8)] [] hu44 nx 0 0
              refine r_aload_n 2 dX10_tell_125 rfl rfl ?_
              refine r_iconst (v := (nI 0)) dX10_tell_126 rfl ?_
              refine r_putf (ci := 11) (kf := 31) (T := TX10) rfl in_X10 tyX10_ok nmX10 (by decide) wF_X10_116 rfl (tyX10_ok 31 (by decide)) dX10_tell_127 (MAt.o_ HMu44) (Nat.le_of_ble_eq_true rfl) rfl rfl ?_
              obtain ⟨hu45, eu45, HMu45, HOu45⟩ := mo_o HMu44 HOu44 s11.cd s11.n s11.sz s11.wn s11.at_ s11.wr s11.ru s11.dn s11.lm s11.st 0 s11.up
              refine Blk.eqs ?_ rfl rfl eu45
              replace HMu45 : MAt hu45 x0 (MV.u_fr (MV.u_ec (MV.u_ev s11 (va_up (va_up (va_up (va_up s11.ev j20 z22) j25 z27) j30 z32) j35 z37)) (va_up s11.ec j42 ((s11.ec j40) + 1))) 0) := HMu45
              show Blk g M_X10_tell (pM x0 h0 nx Q) 130 [(11, .int ((nI 4) * (((nI 12) * x3) + (nI (s11.ec j18))))), (10, .int (nI 1)), (0, .ref x0), (1, .ref (x0 + 15)), (2, .ref (x0 + 14)), (3, .int x3), (4, .int x4), (5, .int x5), (6, .long x6), (8, .long x8)] [] hu45 nx 0 0
              refine r_iconst (v := (nI 1)) dX10_tell_130 rfl ?_
              exact r_zret (ty := .boolean) dX10_tell_131 rfl rfl (by decide) (by decide) ⟨rfl, HOu45, _, HMu45, V⟩
            · have V := V.2 c
              refine r_iconst (v := (nI 0)) dX10_tell_72 rfl ?_
              exact r_zret (ty := .boolean) dX10_tell_73 rfl rfl (by decide) (by decide) ⟨rfl, HOh9, _, HMh9, V⟩
set_option maxRecDepth 20000 in
theorem v_X10_works_0 {g : xG} {Q : mQ} {s : MV} {x0 : Nat} {x1 : Int32} {x2 : Int32} {x3 : Int32} {x4 : Int64} {x6 : Int64} (V : (CtM g M_X10_tell [.ref x0, .ref (x0 + 13), .ref (x0 + 12), .int x1, .int x2, .int x3, .long x4, .long x6] x0 s (fun r s3 => ∃ v4 : Nat, r = some (.int (nI v4)) ∧ (v4 ≤ 1 ∧ Q (some (.int (nI v4))) s3)))) : BlkM g M_X10_works x0 Q 0 [(0, .ref x0), (1, .int x1), (2, .int x2), (3, .int x3), (4, .long x4), (6, .long x6)] [] s := by
  intro h0 h nx HO HM
  refine r_aload_n 0 dX10_works_0 rfl rfl ?_
  refine r_aload_n 0 dX10_works_1 rfl rfl ?_
  refine r_getf (ci := 11) (kf := 22) (T := TX10) rfl in_X10 (by decide) wF_X10_46 dX10_works_2 (MAt.o_ HM) rfl ?_
  refine r_aload_n 0 dX10_works_5 rfl rfl ?_
  refine r_getf (ci := 11) (kf := 21) (T := TX10) rfl in_X10 (by decide) wF_X10_43 dX10_works_6 (MAt.o_ HM) rfl ?_
  refine r_iload_n 1 dX10_works_9 rfl rfl ?_
  refine r_iload_n 2 dX10_works_10 rfl rfl ?_
  refine r_iload_n 3 dX10_works_11 rfl rfl ?_
  refine r_lload 4 dX10_works_12 rfl ?_
  refine r_lload 5 dX10_works_14 rfl ?_
  refine r_callV (M2 := M_X10_tell) (ci := 11) (n := 7) (As := [.ref (x0 + 13), .ref (x0 + 12), .int x1, .int x2, .int x3, .long x4, .long x6]) rfl (wl5 wM_X10_292 wi_X10_tell wS_X10_tell wI_StateSharesModel wc_X10_tell) (by decide +kernel) (by decide) rfl rfl (Nat.le_of_ble_eq_true rfl) dX10_works_16 (MAt.o_ HM) (by decide) (by decide) (Ct.imp (V _ _ HM) (fun r h1 n2 V => ?_))
  obtain ⟨rfl, Oh1, s3, HMh1, V⟩ := V
  have HOh1 := Off.tr HO Oh1
  obtain ⟨v4, rfl, V⟩ := V
  show Blk g M_X10_works (pM x0 h0 nx Q) 19 [(0, .ref x0), (1, .int x1), (2, .int x2), (3, .int x3), (4, .long x4), (6, .long x6)] [.int (nI v4)] h1 nx 0 0
  obtain ⟨c, V⟩ := V
  exact r_zret (ty := .boolean) dX10_works_19 rfl (n_bool c) (by decide) (by decide) ⟨rfl, HOh1, _, HMh1, V⟩
set_option maxRecDepth 20000 in
theorem v_X10_event_0 {g : xG} {Q : mQ} {s : MV} {x0 : Nat} {x1 : Int32} {x2 : Int32} {x3 : Int32} {x4 : Int64} {x6 : Int64} (V : (CtM g M_X10_tell [.ref x0, .ref (x0 + 15), .ref (x0 + 14), .int x1, .int x2, .int x3, .long x4, .long x6] x0 s (fun r s3 => ∃ v4 : Nat, r = some (.int (nI v4)) ∧ (v4 ≤ 1 ∧ Q (some (.int (nI v4))) s3)))) : BlkM g M_X10_event x0 Q 0 [(0, .ref x0), (1, .int x1), (2, .int x2), (3, .int x3), (4, .long x4), (6, .long x6)] [] s := by
  intro h0 h nx HO HM
  refine r_aload_n 0 dX10_event_0 rfl rfl ?_
  refine r_aload_n 0 dX10_event_1 rfl rfl ?_
  refine r_getf (ci := 11) (kf := 24) (T := TX10) rfl in_X10 (by decide) wF_X10_52 dX10_event_2 (MAt.o_ HM) rfl ?_
  refine r_aload_n 0 dX10_event_5 rfl rfl ?_
  refine r_getf (ci := 11) (kf := 23) (T := TX10) rfl in_X10 (by decide) wF_X10_49 dX10_event_6 (MAt.o_ HM) rfl ?_
  refine r_iload_n 1 dX10_event_9 rfl rfl ?_
  refine r_iload_n 2 dX10_event_10 rfl rfl ?_
  refine r_iload_n 3 dX10_event_11 rfl rfl ?_
  refine r_lload 4 dX10_event_12 rfl ?_
  refine r_lload 5 dX10_event_14 rfl ?_
  refine r_callV (M2 := M_X10_tell) (ci := 11) (n := 7) (As := [.ref (x0 + 15), .ref (x0 + 14), .int x1, .int x2, .int x3, .long x4, .long x6]) rfl (wl5 wM_X10_292 wi_X10_tell wS_X10_tell wI_StateSharesModel wc_X10_tell) (by decide +kernel) (by decide) rfl rfl (Nat.le_of_ble_eq_true rfl) dX10_event_16 (MAt.o_ HM) (by decide) (by decide) (Ct.imp (V _ _ HM) (fun r h1 n2 V => ?_))
  obtain ⟨rfl, Oh1, s3, HMh1, V⟩ := V
  have HOh1 := Off.tr HO Oh1
  obtain ⟨v4, rfl, V⟩ := V
  show Blk g M_X10_event (pM x0 h0 nx Q) 19 [(0, .ref x0), (1, .int x1), (2, .int x2), (3, .int x3), (4, .long x4), (6, .long x6)] [.int (nI v4)] h1 nx 0 0
  obtain ⟨c, V⟩ := V
  exact r_zret (ty := .boolean) dX10_event_19 rfl (n_bool c) (by decide) (by decide) ⟨rfl, HOh1, _, HMh1, V⟩
set_option maxRecDepth 20000 in
theorem v_X10_together_0 {g : xG} {Q : mQ} {s : MV} {x0 : Nat} {x1 : Nat} {x2 : Nat} (V : (CtM g M_X10_set [.ref x0, .int (nI 82), .long (lN 0)] x0 s (fun r s3 => r = none ∧ BlkM g M_X10_together x0 Q 9 [(0, .ref x0), (1, .int (nI x1)), (3, .int (nI x2))] [] s3))) : BlkM g M_X10_together x0 Q 0 [(0, .ref x0), (1, .int (nI x1)), (2, .int (nI x2))] [] s := by
  intro h0 h nx HO HM
  refine r_aload_n 0 dX10_together_0 rfl rfl ?_
  refine r_bipush (v := (nI 82)) dX10_together_1 rfl ?_
  refine r_lconst (v := (lN 0)) dX10_together_3 rfl ?_
  refine r_callV (M2 := M_X10_set) (ci := 11) (n := 2) (As := [.int (nI 82), .long (lN 0)]) rfl (wl5 wM_X10_82 wi_X10_set wS_X10_set wI_StateSharesModel wc_X10_set) (by decide +kernel) (by decide) rfl rfl (Nat.le_of_ble_eq_true rfl) dX10_together_4 (MAt.o_ HM) (by decide) (by decide) (Ct.imp (V _ _ HM) (fun r h1 n2 V => ?_))
  obtain ⟨rfl, Oh1, s3, HMh1, V⟩ := V
  have HOh1 := Off.tr HO Oh1
  obtain ⟨rfl, V⟩ := V
  show Blk g M_X10_together (pM x0 h0 nx Q) 7 [(0, .ref x0), (1, .int (nI x1)), (2, .int (nI x2))] [] h1 nx 0 0
  refine r_iload_n 2 dX10_together_7 rfl rfl ?_
  refine r_istore_n (L' := [(3, .int (nI x2)), (0, .ref x0), (1, .int (nI x1)), (2, .int (nI x2))]) dX10_together_8 rfl (by decide) rfl ?_
  exact Blk.sub [1, 2, 0] rfl (V _ _ _ HOh1 HMh1)
set_option maxRecDepth 20000 in
theorem v_X10_together_9 {g : xG} {Q : mQ} {s : MV} {x0 : Nat} {x1 : Nat} {x3 : Nat} (V : ((x3 < 2 ^ 31 ∧ s.n < 2 ^ 31) ∧ ((s.n ≤ x3 → (Q none s)) ∧ (x3 < s.n → (CtM g M_X10_add [.ref x0, .int (nI 82), .int (nI ((6 * x1) + x3))] x0 s (fun r s3 => r = none ∧ BlkM g M_X10_together x0 Q 9 [(0, .ref x0), (1, .int (nI x1)), (3, .int (nI (x3 + 1)))] [] s3)))))) : BlkM g M_X10_together x0 Q 9 [(0, .ref x0), (1, .int (nI x1)), (3, .int (nI x3))] [] s := by
  intro h0 h nx HO HM
  refine r_iload_n 2 dX10_together_9 rfl rfl ?_
  refine r_aload_n 0 dX10_together_10 rfl rfl ?_
  refine r_getf (ci := 11) (kf := 1) (T := TX10) rfl in_X10 (by decide) wF_X10_75 dX10_together_11 (MAt.o_ HM) rfl ?_
  obtain ⟨c, V⟩ := V
  refine r_icmp_geN (tgt := 35) dX10_together_14 (by decide) c (fun c => ?_) (fun c => ?_)
  · have V := V.1 c
    exact r_vret dX10_together_35 rfl (by decide) (by decide) ⟨rfl, HO, _, HM, V⟩
  · have V := V.2 c
    refine r_aload_n 0 dX10_together_17 rfl rfl ?_
    refine r_bipush (v := (nI 82)) dX10_together_18 rfl ?_
    refine r_bipush (v := (nI 6)) dX10_together_20 rfl ?_
    refine r_iload_n 1 dX10_together_22 rfl rfl ?_
    refine r_imulN dX10_together_23 ?_
    refine r_iload_n 2 dX10_together_24 rfl rfl ?_
    refine r_iaddN dX10_together_25 ?_
    refine r_callV (M2 := M_X10_add) (ci := 11) (n := 2) (As := [.int (nI 82), .int (nI ((6 * x1) + x3))]) rfl (wl5 wM_X10_256 wi_X10_add wS_X10_add wI_StateSharesModel wc_X10_add) (by decide +kernel) (by decide) rfl rfl (Nat.le_of_ble_eq_true rfl) dX10_together_26 (MAt.o_ HM) (by decide) (by decide) (Ct.imp (V _ _ HM) (fun r h1 n2 V => ?_))
    obtain ⟨rfl, Oh1, s3, HMh1, V⟩ := V
    have HOh1 := Off.tr HO Oh1
    obtain ⟨rfl, V⟩ := V
    show Blk g M_X10_together (pM x0 h0 nx Q) 29 [(0, .ref x0), (1, .int (nI x1)), (3, .int (nI x3))] [] h1 nx 0 0
    refine r_iincN 2 (b := 1) (L' := [(3, .int (nI (x3 + 1))), (0, .ref x0), (1, .int (nI x1))]) dX10_together_29 rfl rfl (by decide) rfl ?_
    refine r_goto (tgt := 9) dX10_together_32 (by decide) ?_
    exact Blk.sub [1, 2, 0] rfl (V _ _ _ HOh1 HMh1)
set_option maxRecDepth 20000 in
theorem v_X10_sums_0 {g : xG} {Q : mQ} {s : MV} {x0 : Nat} {x1 : Int32} (V : (CtM g M_X10_isForetold [.ref x0, .int x1] x0 (MV.u_cd s 0) (fun r s4 => ∃ v5 : Nat, r = some (.int (nI v5)) ∧ (v5 < 2 ^ 31 ∧ ((¬ v5 = 0 → (CtM g M_X10_together [.ref x0, .int x1, .int (nI 0)] x0 s4 (fun r s8 => r = none ∧ (CtM g M_X10_below [.ref x0, .int (nI 82), .int (nI 73)] x0 s8 (fun r s11 => r = none ∧ (CtM g M_X10_compare [.ref x0, .int (nI 82), .int (nI 73)] x0 s11 (fun r s14 => ∃ v15 : Int32, r = some (.int v15) ∧ ((¬ v15 = 0 → (Q (some (.int (nI 0))) s14)) ∧ (v15 = 0 → (Q (some (.int (nI 1))) s14)))))))))) ∧ (v5 = 0 → (Q (some (.int (nI 0))) s4))))))) : BlkM g M_X10_sums x0 Q 0 [(0, .ref x0), (1, .int x1)] [] s := by
  intro h0 h nx HO HM
  refine r_aload_n 0 dX10_sums_0 rfl rfl ?_
  refine r_iconst (v := (nI 0)) dX10_sums_1 rfl ?_
  refine r_putf (ci := 11) (kf := 0) (T := TX10) rfl in_X10 tyX10_ok nmX10 (by decide) wF_X10_91 rfl (tyX10_ok 0 (by decide)) dX10_sums_2 (MAt.o_ HM) (Nat.le_of_ble_eq_true rfl) rfl rfl ?_
  obtain ⟨hu1, eu1, HMu1, HOu1⟩ := mo_o HM HO 0 s.n s.sz s.wn s.at_ s.wr s.ru s.dn s.lm s.st s.fr s.up
  refine Blk.eqs ?_ rfl rfl eu1
  replace HMu1 : MAt hu1 x0 (MV.u_cd s 0) := HMu1
  show Blk g M_X10_sums (pM x0 h0 nx Q) 5 [(0, .ref x0), (1, .int x1)] [] hu1 nx 0 0
  refine r_aload_n 0 dX10_sums_5 rfl rfl ?_
  refine r_iload_n 1 dX10_sums_6 rfl rfl ?_
  refine r_callV (M2 := M_X10_isForetold) (ci := 11) (n := 1) (As := [.int x1]) rfl (wl5 wM_X10_278 wi_X10_isForetold wS_X10_isForetold wI_StateSharesModel wc_X10_isForetold) (by decide +kernel) (by decide) rfl rfl (Nat.le_of_ble_eq_true rfl) dX10_sums_7 (MAt.o_ HMu1) (by decide) (by decide) (Ct.imp (V _ _ HMu1) (fun r h2 n3 V => ?_))
  obtain ⟨rfl, Oh2, s4, HMh2, V⟩ := V
  have HOh2 := Off.tr HOu1 Oh2
  obtain ⟨v5, rfl, V⟩ := V
  show Blk g M_X10_sums (pM x0 h0 nx Q) 10 [(0, .ref x0), (1, .int x1)] [.int (nI v5)] h2 nx 0 0
  obtain ⟨c, V⟩ := V
  refine r_if_neN (tgt := 15) dX10_sums_10 (by decide) c (fun c => ?_) (fun c => ?_)
  · have V := V.1 c
    refine r_aload_n 0 dX10_sums_15 rfl rfl ?_
    refine r_iload_n 1 dX10_sums_16 rfl rfl ?_
    refine r_iconst (v := (nI 0)) dX10_sums_17 rfl ?_
    refine r_callV (M2 := M_X10_together) (ci := 11) (n := 2) (As := [.int x1, .int (nI 0)]) rfl (wl5 wM_X10_296 wi_X10_together wS_X10_together wI_StateSharesModel wc_X10_together) (by decide +kernel) (by decide) rfl rfl (Nat.le_of_ble_eq_true rfl) dX10_sums_18 (MAt.o_ HMh2) (by decide) (by decide) (Ct.imp (V _ _ HMh2) (fun r h6 n7 V => ?_))
    obtain ⟨rfl, Oh6, s8, HMh6, V⟩ := V
    have HOh6 := Off.tr HOh2 Oh6
    obtain ⟨rfl, V⟩ := V
    show Blk g M_X10_sums (pM x0 h0 nx Q) 21 [(0, .ref x0), (1, .int x1)] [] h6 nx 0 0
    refine r_aload_n 0 dX10_sums_21 rfl rfl ?_
    refine r_bipush (v := (nI 82)) dX10_sums_22 rfl ?_
    refine r_bipush (v := (nI 73)) dX10_sums_24 rfl ?_
    refine r_callV (M2 := M_X10_below) (ci := 11) (n := 2) (As := [.int (nI 82), .int (nI 73)]) rfl (wl5 wM_X10_239 wi_X10_below wS_X10_below wI_StateSharesModel wc_X10_below) (by decide +kernel) (by decide) rfl rfl (Nat.le_of_ble_eq_true rfl) dX10_sums_26 (MAt.o_ HMh6) (by decide) (by decide) (Ct.imp (V _ _ HMh6) (fun r h9 n10 V => ?_))
    obtain ⟨rfl, Oh9, s11, HMh9, V⟩ := V
    have HOh9 := Off.tr HOh6 Oh9
    obtain ⟨rfl, V⟩ := V
    show Blk g M_X10_sums (pM x0 h0 nx Q) 29 [(0, .ref x0), (1, .int x1)] [] h9 nx 0 0
    refine r_aload_n 0 dX10_sums_29 rfl rfl ?_
    refine r_bipush (v := (nI 82)) dX10_sums_30 rfl ?_
    refine r_bipush (v := (nI 73)) dX10_sums_32 rfl ?_
    refine r_callV (M2 := M_X10_compare) (ci := 11) (n := 2) (As := [.int (nI 82), .int (nI 73)]) rfl (wl5 wM_X10_242 wi_X10_compare wS_X10_compare wI_StateSharesModel wc_X10_compare) (by decide +kernel) (by decide) rfl rfl (Nat.le_of_ble_eq_true rfl) dX10_sums_34 (MAt.o_ HMh9) (by decide) (by decide) (Ct.imp (V _ _ HMh9) (fun r h12 n13 V => ?_))
    obtain ⟨rfl, Oh12, s14, HMh12, V⟩ := V
    have HOh12 := Off.tr HOh9 Oh12
    obtain ⟨v15, rfl, V⟩ := V
    show Blk g M_X10_sums (pM x0 h0 nx Q) 37 [(0, .ref x0), (1, .int x1)] [.int v15] h12 nx 0 0
    refine r_if_ne (tgt := 44) dX10_sums_37 (by decide) (fun c => ?_) (fun c => ?_)
    · have V := V.1 c
      refine r_iconst (v := (nI 0)) dX10_sums_44 rfl ?_
      exact r_zret (ty := .boolean) dX10_sums_45 rfl rfl (by decide) (by decide) ⟨rfl, HOh12, _, HMh12, V⟩
    · have V := V.2 c
      refine r_iconst (v := (nI 1)) dX10_sums_40 rfl ?_
      refine r_goto (tgt := 45) dX10_sums_41 (by decide) ?_
      exact r_zret (ty := .boolean) dX10_sums_45 rfl rfl (by decide) (by decide) ⟨rfl, HOh12, _, HMh12, V⟩
  · have V := V.2 c
    refine r_iconst (v := (nI 0)) dX10_sums_13 rfl ?_
    exact r_zret (ty := .boolean) dX10_sums_14 rfl rfl (by decide) (by decide) ⟨rfl, HOh2, _, HMh2, V⟩
set_option maxRecDepth 20000 in
theorem v_X10_target_0 {g : xG} {Q : mQ} {s : MV} {x0 : Nat} {x1 : Int32} {x2 : Int64} {x4 : Int64} (V : (CtM g M_X10_isState [.ref x0, .int x1] x0 (MV.u_cd s 0) (fun r s4 => ∃ v5 : Nat, r = some (.int (nI v5)) ∧ (v5 < 2 ^ 31 ∧ ((v5 = 0 → (Q (some (.int (-1))) s4)) ∧ (¬ v5 = 0 → (CtP g M_X10_isFraction [.long x2, .long x4] (fun r => ∃ v8 : Nat, r = some (.int (nI v8)) ∧ (v8 < 2 ^ 31 ∧ ((¬ v8 = 0 → BlkM g M_X10_target x0 Q 27 [(0, .ref x0), (1, .int x1), (2, .long x2), (4, .long x4), (6, .int (nI 0))] [] s4) ∧ (v8 = 0 → (Q (some (.int (-1))) s4)))))))))))) : BlkM g M_X10_target x0 Q 0 [(0, .ref x0), (1, .int x1), (2, .long x2), (4, .long x4)] [] s := by
  intro h0 h nx HO HM
  refine r_aload_n 0 dX10_target_0 rfl rfl ?_
  refine r_iconst (v := (nI 0)) dX10_target_1 rfl ?_
  refine r_putf (ci := 11) (kf := 0) (T := TX10) rfl in_X10 tyX10_ok nmX10 (by decide) wF_X10_91 rfl (tyX10_ok 0 (by decide)) dX10_target_2 (MAt.o_ HM) (Nat.le_of_ble_eq_true rfl) rfl rfl ?_
  obtain ⟨hu1, eu1, HMu1, HOu1⟩ := mo_o HM HO 0 s.n s.sz s.wn s.at_ s.wr s.ru s.dn s.lm s.st s.fr s.up
  refine Blk.eqs ?_ rfl rfl eu1
  replace HMu1 : MAt hu1 x0 (MV.u_cd s 0) := HMu1
  show Blk g M_X10_target (pM x0 h0 nx Q) 5 [(0, .ref x0), (1, .int x1), (2, .long x2), (4, .long x4)] [] hu1 nx 0 0
  refine r_aload_n 0 dX10_target_5 rfl rfl ?_
  refine r_iload_n 1 dX10_target_6 rfl rfl ?_
  refine r_callV (M2 := M_X10_isState) (ci := 11) (n := 1) (As := [.int x1]) rfl (wl5 wM_X10_108 wi_X10_isState wS_X10_isState wI_StateSharesModel wc_X10_isState) (by decide +kernel) (by decide) rfl rfl (Nat.le_of_ble_eq_true rfl) dX10_target_7 (MAt.o_ HMu1) (by decide) (by decide) (Ct.imp (V _ _ HMu1) (fun r h2 n3 V => ?_))
  obtain ⟨rfl, Oh2, s4, HMh2, V⟩ := V
  have HOh2 := Off.tr HOu1 Oh2
  obtain ⟨v5, rfl, V⟩ := V
  show Blk g M_X10_target (pM x0 h0 nx Q) 10 [(0, .ref x0), (1, .int x1), (2, .long x2), (4, .long x4)] [.int (nI v5)] h2 nx 0 0
  obtain ⟨c, V⟩ := V
  refine r_if_eqN (tgt := 22) dX10_target_10 (by decide) c (fun c => ?_) (fun c => ?_)
  · have V := V.1 c
    refine r_iconst (v := (-1)) dX10_target_22 rfl ?_
    exact r_iret dX10_target_23 rfl (by decide) (by decide) ⟨rfl, HOh2, _, HMh2, V⟩
  · have V := V.2 c
    refine r_lload_n 2 dX10_target_13 rfl rfl ?_
    refine r_lload 3 dX10_target_14 rfl ?_
    refine r_callS (M2 := M_X10_isFraction) (n := 2) (As := [.long x2, .long x4]) (wl4 wM_X10_286 ws_X10_isFraction wI_StateSharesModel wc_X10_isFraction) (by decide +kernel) (by decide) rfl rfl (Nat.le_of_ble_eq_true rfl) dX10_target_16 (by decide) (by decide) (Ct.imp (V _ _) (fun r h6 n7 V => ?_))
    obtain ⟨rfl, rfl, V⟩ := V
    obtain ⟨v8, rfl, V⟩ := V
    show Blk g M_X10_target (pM x0 h0 nx Q) 19 [(0, .ref x0), (1, .int x1), (2, .long x2), (4, .long x4)] [.int (nI v8)] h2 nx 0 0
    obtain ⟨c, V⟩ := V
    refine r_if_neN (tgt := 24) dX10_target_19 (by decide) c (fun c => ?_) (fun c => ?_)
    · have V := V.1 c
      refine r_iconst (v := (nI 0)) dX10_target_24 rfl ?_
      refine r_istore (L' := [(6, .int (nI 0)), (0, .ref x0), (1, .int x1), (2, .long x2), (4, .long x4)]) dX10_target_25 (by decide) rfl ?_
      exact Blk.sub [1, 2, 3, 4, 0] rfl (V _ _ _ HOh2 HMh2)
    · have V := V.2 c
      refine r_iconst (v := (-1)) dX10_target_22 rfl ?_
      exact r_iret dX10_target_23 rfl (by decide) (by decide) ⟨rfl, HOh2, _, HMh2, V⟩
set_option maxRecDepth 20000 in
theorem v_X10_target_27 {g : xG} {Q : mQ} {s : MV} {x0 : Nat} {x1 : Int32} {x2 : Int64} {x4 : Int64} {x6 : Nat} (V : ((x6 < 2 ^ 31 ∧ 12 < 2 ^ 31) ∧ ((12 ≤ x6 → (Q (some (.int (-1))) s)) ∧ (x6 < 12 → (CtM g M_X10_isForetold [.ref x0, .int (nI x6)] x0 s (fun r s3 => ∃ v4 : Nat, r = some (.int (nI v4)) ∧ (v4 < 2 ^ 31 ∧ ((¬ v4 = 0 → (CtM g M_X10_together [.ref x0, .int (nI x6), .int x1] x0 s3 (fun r s7 => r = none ∧ (CtM g M_X10_below [.ref x0, .int (nI 82), .int (nI 73)] x0 s7 (fun r s10 => r = none ∧ (CtM g M_X10_times [.ref x0, .int (nI 82), .long x4] x0 s10 (fun r s13 => r = none ∧ ((¬ x2 = (lN 0) → (CtM g M_X10_times [.ref x0, .int (nI 73), .long x2] x0 s13 (fun r s16 => r = none ∧ (CtM g M_X10_compare [.ref x0, .int (nI 82), .int (nI 73)] x0 s16 (fun r s19 => ∃ v20 : Int32, r = some (.int v20) ∧ ((v20 < 0 → BlkM g M_X10_target x0 Q 27 [(0, .ref x0), (1, .int x1), (2, .long x2), (4, .long x4), (6, .int (nI (x6 + 1)))] [] s19) ∧ (¬ v20 < 0 → (Q (some (.int (nI x6))) s19)))))))) ∧ (x2 = (lN 0) → (Q (some (.int (nI x6))) s13)))))))))) ∧ (v4 = 0 → (Q (some (.int (-1))) s3)))))))))) : BlkM g M_X10_target x0 Q 27 [(0, .ref x0), (1, .int x1), (2, .long x2), (4, .long x4), (6, .int (nI x6))] [] s := by
  intro h0 h nx HO HM
  refine r_iload 4 dX10_target_27 rfl ?_
  refine r_bipush (v := (nI 12)) dX10_target_29 rfl ?_
  obtain ⟨c, V⟩ := V
  refine r_icmp_geN (tgt := 104) dX10_target_31 (by decide) c (fun c => ?_) (fun c => ?_)
  · have V := V.1 c
    refine r_iconst (v := (-1)) dX10_target_104 rfl ?_
    exact r_iret dX10_target_105 rfl (by decide) (by decide) ⟨rfl, HO, _, HM, V⟩
  · have V := V.2 c
    refine r_aload_n 0 dX10_target_34 rfl rfl ?_
    refine r_iload 4 dX10_target_35 rfl ?_
    refine r_callV (M2 := M_X10_isForetold) (ci := 11) (n := 1) (As := [.int (nI x6)]) rfl (wl5 wM_X10_278 wi_X10_isForetold wS_X10_isForetold wI_StateSharesModel wc_X10_isForetold) (by decide +kernel) (by decide) rfl rfl (Nat.le_of_ble_eq_true rfl) dX10_target_37 (MAt.o_ HM) (by decide) (by decide) (Ct.imp (V _ _ HM) (fun r h1 n2 V => ?_))
    obtain ⟨rfl, Oh1, s3, HMh1, V⟩ := V
    have HOh1 := Off.tr HO Oh1
    obtain ⟨v4, rfl, V⟩ := V
    show Blk g M_X10_target (pM x0 h0 nx Q) 40 [(0, .ref x0), (1, .int x1), (2, .long x2), (4, .long x4), (6, .int (nI x6))] [.int (nI v4)] h1 nx 0 0
    obtain ⟨c, V⟩ := V
    refine r_if_neN (tgt := 45) dX10_target_40 (by decide) c (fun c => ?_) (fun c => ?_)
    · have V := V.1 c
      refine r_aload_n 0 dX10_target_45 rfl rfl ?_
      refine r_iload 4 dX10_target_46 rfl ?_
      refine r_iload_n 1 dX10_target_48 rfl rfl ?_
      refine r_callV (M2 := M_X10_together) (ci := 11) (n := 2) (As := [.int (nI x6), .int x1]) rfl (wl5 wM_X10_296 wi_X10_together wS_X10_together wI_StateSharesModel wc_X10_together) (by decide +kernel) (by decide) rfl rfl (Nat.le_of_ble_eq_true rfl) dX10_target_49 (MAt.o_ HMh1) (by decide) (by decide) (Ct.imp (V _ _ HMh1) (fun r h5 n6 V => ?_))
      obtain ⟨rfl, Oh5, s7, HMh5, V⟩ := V
      have HOh5 := Off.tr HOh1 Oh5
      obtain ⟨rfl, V⟩ := V
      show Blk g M_X10_target (pM x0 h0 nx Q) 52 [(0, .ref x0), (1, .int x1), (2, .long x2), (4, .long x4), (6, .int (nI x6))] [] h5 nx 0 0
      refine r_aload_n 0 dX10_target_52 rfl rfl ?_
      refine r_bipush (v := (nI 82)) dX10_target_53 rfl ?_
      refine r_bipush (v := (nI 73)) dX10_target_55 rfl ?_
      refine r_callV (M2 := M_X10_below) (ci := 11) (n := 2) (As := [.int (nI 82), .int (nI 73)]) rfl (wl5 wM_X10_239 wi_X10_below wS_X10_below wI_StateSharesModel wc_X10_below) (by decide +kernel) (by decide) rfl rfl (Nat.le_of_ble_eq_true rfl) dX10_target_57 (MAt.o_ HMh5) (by decide) (by decide) (Ct.imp (V _ _ HMh5) (fun r h8 n9 V => ?_))
      obtain ⟨rfl, Oh8, s10, HMh8, V⟩ := V
      have HOh8 := Off.tr HOh5 Oh8
      obtain ⟨rfl, V⟩ := V
      show Blk g M_X10_target (pM x0 h0 nx Q) 60 [(0, .ref x0), (1, .int x1), (2, .long x2), (4, .long x4), (6, .int (nI x6))] [] h8 nx 0 0
      refine r_aload_n 0 dX10_target_60 rfl rfl ?_
      refine r_bipush (v := (nI 82)) dX10_target_61 rfl ?_
      refine r_lload 3 dX10_target_63 rfl ?_
      refine r_callV (M2 := M_X10_times) (ci := 11) (n := 2) (As := [.int (nI 82), .long x4]) rfl (wl5 wM_X10_88 wi_X10_times wS_X10_times wI_StateSharesModel wc_X10_times) (by decide +kernel) (by decide) rfl rfl (Nat.le_of_ble_eq_true rfl) dX10_target_65 (MAt.o_ HMh8) (by decide) (by decide) (Ct.imp (V _ _ HMh8) (fun r h11 n12 V => ?_))
      obtain ⟨rfl, Oh11, s13, HMh11, V⟩ := V
      have HOh11 := Off.tr HOh8 Oh11
      obtain ⟨rfl, V⟩ := V
      show Blk g M_X10_target (pM x0 h0 nx Q) 68 [(0, .ref x0), (1, .int x1), (2, .long x2), (4, .long x4), (6, .int (nI x6))] [] h11 nx 0 0
      refine r_lload_n 2 dX10_target_68 rfl rfl ?_
      refine r_lconst (v := (lN 0)) dX10_target_69 rfl ?_
      refine r_lcmp dX10_target_70 ?_
      refine r_if_ne (tgt := 77) dX10_target_71 (by decide) (fun c => ?_) (fun c => ?_)
      · have V := V.1 (fun q => c ((lg_cmp_eq _ _).mpr q))
        refine r_aload_n 0 dX10_target_77 rfl rfl ?_
        refine r_bipush (v := (nI 73)) dX10_target_78 rfl ?_
        refine r_lload_n 2 dX10_target_80 rfl rfl ?_
        refine r_callV (M2 := M_X10_times) (ci := 11) (n := 2) (As := [.int (nI 73), .long x2]) rfl (wl5 wM_X10_88 wi_X10_times wS_X10_times wI_StateSharesModel wc_X10_times) (by decide +kernel) (by decide) rfl rfl (Nat.le_of_ble_eq_true rfl) dX10_target_81 (MAt.o_ HMh11) (by decide) (by decide) (Ct.imp (V _ _ HMh11) (fun r h14 n15 V => ?_))
        obtain ⟨rfl, Oh14, s16, HMh14, V⟩ := V
        have HOh14 := Off.tr HOh11 Oh14
        obtain ⟨rfl, V⟩ := V
        show Blk g M_X10_target (pM x0 h0 nx Q) 84 [(0, .ref x0), (1, .int x1), (2, .long x2), (4, .long x4), (6, .int (nI x6))] [] h14 nx 0 0
        refine r_aload_n 0 dX10_target_84 rfl rfl ?_
        refine r_bipush (v := (nI 82)) dX10_target_85 rfl ?_
        refine r_bipush (v := (nI 73)) dX10_target_87 rfl ?_
        refine r_callV (M2 := M_X10_compare) (ci := 11) (n := 2) (As := [.int (nI 82), .int (nI 73)]) rfl (wl5 wM_X10_242 wi_X10_compare wS_X10_compare wI_StateSharesModel wc_X10_compare) (by decide +kernel) (by decide) rfl rfl (Nat.le_of_ble_eq_true rfl) dX10_target_89 (MAt.o_ HMh14) (by decide) (by decide) (Ct.imp (V _ _ HMh14) (fun r h17 n18 V => ?_))
        obtain ⟨rfl, Oh17, s19, HMh17, V⟩ := V
        have HOh17 := Off.tr HOh14 Oh17
        obtain ⟨v20, rfl, V⟩ := V
        show Blk g M_X10_target (pM x0 h0 nx Q) 92 [(0, .ref x0), (1, .int x1), (2, .long x2), (4, .long x4), (6, .int (nI x6))] [.int v20] h17 nx 0 0
        refine r_if_lt (tgt := 98) dX10_target_92 (by decide) (fun c => ?_) (fun c => ?_)
        · have V := V.1 c
          refine r_iincN 4 (b := 1) (L' := [(6, .int (nI (x6 + 1))), (0, .ref x0), (1, .int x1), (2, .long x2), (4, .long x4)]) dX10_target_98 rfl rfl (by decide) rfl ?_
          refine r_goto (tgt := 27) dX10_target_101 (by decide) ?_
          exact Blk.sub [1, 2, 3, 4, 0] rfl (V _ _ _ HOh17 HMh17)
        · have V := V.2 c
          refine r_iload 4 dX10_target_95 rfl ?_
          exact r_iret dX10_target_97 rfl (by decide) (by decide) ⟨rfl, HOh17, _, HMh17, V⟩
      · have V := V.2 ((lg_cmp_eq _ _).mp c)
        refine r_iload 4 dX10_target_74 rfl ?_
        exact r_iret dX10_target_76 rfl (by decide) (by decide) ⟨rfl, HOh11, _, HMh11, V⟩
    · have V := V.2 c
      refine r_iconst (v := (-1)) dX10_target_43 rfl ?_
      exact r_iret dX10_target_44 rfl (by decide) (by decide) ⟨rfl, HOh1, _, HMh1, V⟩
set_option maxRecDepth 20000 in
theorem v_X10_part2_0 {g : xG} {Q : mQ} {s : MV} {x0 : Nat} {x1 : Int32} {x2 : Int64} (V : (CtM g M_X10_isState [.ref x0, .int x1] x0 (MV.u_cd s 0) (fun r s4 => ∃ v5 : Nat, r = some (.int (nI v5)) ∧ (v5 < 2 ^ 31 ∧ ((v5 = 0 → (Q (some (.int (nI 0))) s4)) ∧ (¬ v5 = 0 → (CtP g M_X10_in [.long x2, .long (-1000000), .long (lN 1000000)] (fun r => ∃ v8 : Nat, r = some (.int (nI v8)) ∧ (v8 < 2 ^ 31 ∧ ((¬ v8 = 0 → (∃ j9 : Nat, x1 = nI j9 ∧ j9 < 6 ∧ (Q (some (.int (nI 1))) (MV.u_ws s4 (va_up s4.ws j9 x2))))) ∧ (v8 = 0 → (Q (some (.int (nI 0))) s4)))))))))))) : BlkM g M_X10_part2 x0 Q 0 [(0, .ref x0), (1, .int x1), (2, .long x2)] [] s := by
  intro h0 h nx HO HM
  refine r_aload_n 0 dX10_part2_0 rfl rfl ?_
  refine r_iconst (v := (nI 0)) dX10_part2_1 rfl ?_
  refine r_putf (ci := 11) (kf := 0) (T := TX10) rfl in_X10 tyX10_ok nmX10 (by decide) wF_X10_91 rfl (tyX10_ok 0 (by decide)) dX10_part2_2 (MAt.o_ HM) (Nat.le_of_ble_eq_true rfl) rfl rfl ?_
  obtain ⟨hu1, eu1, HMu1, HOu1⟩ := mo_o HM HO 0 s.n s.sz s.wn s.at_ s.wr s.ru s.dn s.lm s.st s.fr s.up
  refine Blk.eqs ?_ rfl rfl eu1
  replace HMu1 : MAt hu1 x0 (MV.u_cd s 0) := HMu1
  show Blk g M_X10_part2 (pM x0 h0 nx Q) 5 [(0, .ref x0), (1, .int x1), (2, .long x2)] [] hu1 nx 0 0
  refine r_aload_n 0 dX10_part2_5 rfl rfl ?_
  refine r_iload_n 1 dX10_part2_6 rfl rfl ?_
  refine r_callV (M2 := M_X10_isState) (ci := 11) (n := 1) (As := [.int x1]) rfl (wl5 wM_X10_108 wi_X10_isState wS_X10_isState wI_StateSharesModel wc_X10_isState) (by decide +kernel) (by decide) rfl rfl (Nat.le_of_ble_eq_true rfl) dX10_part2_7 (MAt.o_ HMu1) (by decide) (by decide) (Ct.imp (V _ _ HMu1) (fun r h2 n3 V => ?_))
  obtain ⟨rfl, Oh2, s4, HMh2, V⟩ := V
  have HOh2 := Off.tr HOu1 Oh2
  obtain ⟨v5, rfl, V⟩ := V
  show Blk g M_X10_part2 (pM x0 h0 nx Q) 10 [(0, .ref x0), (1, .int x1), (2, .long x2)] [.int (nI v5)] h2 nx 0 0
  obtain ⟨c, V⟩ := V
  refine r_if_eqN (tgt := 26) dX10_part2_10 (by decide) c (fun c => ?_) (fun c => ?_)
  · have V := V.1 c
    refine r_iconst (v := (nI 0)) dX10_part2_26 rfl ?_
    exact r_zret (ty := .boolean) dX10_part2_27 rfl rfl (by decide) (by decide) ⟨rfl, HOh2, _, HMh2, V⟩
  · have V := V.2 c
    refine r_lload_n 2 dX10_part2_13 rfl rfl ?_
    refine r_ldc2 (v := (-1000000)) wL_X10_299 dX10_part2_14 ?_
    refine r_ldc2 (v := (lN 1000000)) wL_X10_301 dX10_part2_17 ?_
    refine r_callS (M2 := M_X10_in) (n := 3) (As := [.long x2, .long (-1000000), .long (lN 1000000)]) (wl4 wM_X10_94 ws_X10_in wI_StateSharesModel wc_X10_in) (by decide +kernel) (by decide) rfl rfl (Nat.le_of_ble_eq_true rfl) dX10_part2_20 (by decide) (by decide) (Ct.imp (V _ _) (fun r h6 n7 V => ?_))
    obtain ⟨rfl, rfl, V⟩ := V
    obtain ⟨v8, rfl, V⟩ := V
    show Blk g M_X10_part2 (pM x0 h0 nx Q) 23 [(0, .ref x0), (1, .int x1), (2, .long x2)] [.int (nI v8)] h2 nx 0 0
    obtain ⟨c, V⟩ := V
    refine r_if_neN (tgt := 28) dX10_part2_23 (by decide) c (fun c => ?_) (fun c => ?_)
    · have V := V.1 c
      refine r_aload_n 0 dX10_part2_28 rfl rfl ?_
      refine r_getf (ci := 11) (kf := 25) (T := TX10) rfl in_X10 (by decide) wF_X10_55 dX10_part2_29 (MAt.o_ HMh2) rfl ?_
      refine r_iload_n 1 dX10_part2_32 rfl rfl ?_
      refine r_lload_n 2 dX10_part2_33 rfl rfl ?_
      obtain ⟨j9, e10, V⟩ := V
      obtain ⟨c, V⟩ := V
      refine r_last dX10_part2_34 (MAt.g_ws HMh2) e10 c (by decide) ?_
      obtain ⟨hu11, eu11, HMu11, HOu11⟩ := mo_ws HMh2 HOh2 (va_up s4.ws j9 x2)
      refine Blk.eqs ?_ rfl rfl eu11
      replace HMu11 : MAt hu11 x0 (MV.u_ws s4 (va_up s4.ws j9 x2)) := HMu11
      show Blk g M_X10_part2 (pM x0 h0 nx Q) 35 [(0, .ref x0), (1, .int x1), (2, .long x2)] [] hu11 nx 0 0
      refine r_iconst (v := (nI 1)) dX10_part2_35 rfl ?_
      exact r_zret (ty := .boolean) dX10_part2_36 rfl rfl (by decide) (by decide) ⟨rfl, HOu11, _, HMu11, V⟩
    · have V := V.2 c
      refine r_iconst (v := (nI 0)) dX10_part2_26 rfl ?_
      exact r_zret (ty := .boolean) dX10_part2_27 rfl rfl (by decide) (by decide) ⟨rfl, HOh2, _, HMh2, V⟩
set_option maxRecDepth 20000 in
theorem v_X10_worth_0 {g : xG} {Q : mQ} {s : MV} {x0 : Nat} {x1 : Int32} {x2 : Int32} (V : (CtM g M_X10_isForetold [.ref x0, .int x1] x0 (MV.u_cd s 0) (fun r s4 => ∃ v5 : Nat, r = some (.int (nI v5)) ∧ (v5 < 2 ^ 31 ∧ ((¬ v5 = 0 → (CtM g M_X10_set [.ref x0, .int (nI 82), .long (lN 0)] x0 s4 (fun r s8 => r = none ∧ (CtM g M_X10_set [.ref x0, .int (nI 81), .long (lN 0)] x0 s8 (fun r s11 => r = none ∧ BlkM g M_X10_worth x0 Q 33 [(0, .ref x0), (1, .int x1), (2, .int x2), (3, .int (nI 0))] [] s11))))) ∧ (v5 = 0 → (Q (some (.long (-1))) s4))))))) : BlkM g M_X10_worth x0 Q 0 [(0, .ref x0), (1, .int x1), (2, .int x2)] [] s := by
  intro h0 h nx HO HM
  refine r_aload_n 0 dX10_worth_0 rfl rfl ?_
  refine r_iconst (v := (nI 0)) dX10_worth_1 rfl ?_
  refine r_putf (ci := 11) (kf := 0) (T := TX10) rfl in_X10 tyX10_ok nmX10 (by decide) wF_X10_91 rfl (tyX10_ok 0 (by decide)) dX10_worth_2 (MAt.o_ HM) (Nat.le_of_ble_eq_true rfl) rfl rfl ?_
  obtain ⟨hu1, eu1, HMu1, HOu1⟩ := mo_o HM HO 0 s.n s.sz s.wn s.at_ s.wr s.ru s.dn s.lm s.st s.fr s.up
  refine Blk.eqs ?_ rfl rfl eu1
  replace HMu1 : MAt hu1 x0 (MV.u_cd s 0) := HMu1
  show Blk g M_X10_worth (pM x0 h0 nx Q) 5 [(0, .ref x0), (1, .int x1), (2, .int x2)] [] hu1 nx 0 0
  refine r_aload_n 0 dX10_worth_5 rfl rfl ?_
  refine r_iload_n 1 dX10_worth_6 rfl rfl ?_
  refine r_callV (M2 := M_X10_isForetold) (ci := 11) (n := 1) (As := [.int x1]) rfl (wl5 wM_X10_278 wi_X10_isForetold wS_X10_isForetold wI_StateSharesModel wc_X10_isForetold) (by decide +kernel) (by decide) rfl rfl (Nat.le_of_ble_eq_true rfl) dX10_worth_7 (MAt.o_ HMu1) (by decide) (by decide) (Ct.imp (V _ _ HMu1) (fun r h2 n3 V => ?_))
  obtain ⟨rfl, Oh2, s4, HMh2, V⟩ := V
  have HOh2 := Off.tr HOu1 Oh2
  obtain ⟨v5, rfl, V⟩ := V
  show Blk g M_X10_worth (pM x0 h0 nx Q) 10 [(0, .ref x0), (1, .int x1), (2, .int x2)] [.int (nI v5)] h2 nx 0 0
  obtain ⟨c, V⟩ := V
  refine r_if_neN (tgt := 17) dX10_worth_10 (by decide) c (fun c => ?_) (fun c => ?_)
  · have V := V.1 c
    refine r_aload_n 0 dX10_worth_17 rfl rfl ?_
    refine r_bipush (v := (nI 82)) dX10_worth_18 rfl ?_
    refine r_lconst (v := (lN 0)) dX10_worth_20 rfl ?_
    refine r_callV (M2 := M_X10_set) (ci := 11) (n := 2) (As := [.int (nI 82), .long (lN 0)]) rfl (wl5 wM_X10_82 wi_X10_set wS_X10_set wI_StateSharesModel wc_X10_set) (by decide +kernel) (by decide) rfl rfl (Nat.le_of_ble_eq_true rfl) dX10_worth_21 (MAt.o_ HMh2) (by decide) (by decide) (Ct.imp (V _ _ HMh2) (fun r h6 n7 V => ?_))
    obtain ⟨rfl, Oh6, s8, HMh6, V⟩ := V
    have HOh6 := Off.tr HOh2 Oh6
    obtain ⟨rfl, V⟩ := V
    show Blk g M_X10_worth (pM x0 h0 nx Q) 24 [(0, .ref x0), (1, .int x1), (2, .int x2)] [] h6 nx 0 0
    refine r_aload_n 0 dX10_worth_24 rfl rfl ?_
    refine r_bipush (v := (nI 81)) dX10_worth_25 rfl ?_
    refine r_lconst (v := (lN 0)) dX10_worth_27 rfl ?_
    refine r_callV (M2 := M_X10_set) (ci := 11) (n := 2) (As := [.int (nI 81), .long (lN 0)]) rfl (wl5 wM_X10_82 wi_X10_set wS_X10_set wI_StateSharesModel wc_X10_set) (by decide +kernel) (by decide) rfl rfl (Nat.le_of_ble_eq_true rfl) dX10_worth_28 (MAt.o_ HMh6) (by decide) (by decide) (Ct.imp (V _ _ HMh6) (fun r h9 n10 V => ?_))
    obtain ⟨rfl, Oh9, s11, HMh9, V⟩ := V
    have HOh9 := Off.tr HOh6 Oh9
    obtain ⟨rfl, V⟩ := V
    show Blk g M_X10_worth (pM x0 h0 nx Q) 31 [(0, .ref x0), (1, .int x1), (2, .int x2)] [] h9 nx 0 0
    refine r_iconst (v := (nI 0)) dX10_worth_31 rfl ?_
    refine r_istore_n (L' := [(3, .int (nI 0)), (0, .ref x0), (1, .int x1), (2, .int x2)]) dX10_worth_32 rfl (by decide) rfl ?_
    exact Blk.sub [1, 2, 3, 0] rfl (V _ _ _ HOh9 HMh9)
  · have V := V.2 c
    refine r_ldc2 (v := (-1)) wL_X10_215 dX10_worth_13 ?_
    exact r_lret dX10_worth_16 rfl (by decide) (by decide) ⟨rfl, HOh2, _, HMh2, V⟩
set_option maxRecDepth 20000 in
theorem v_X10_worth_33 {g : xG} {Q : mQ} {s : MV} {x0 : Nat} {x1 : Int32} {x2 : Int32} {x3 : Nat} (V : ((x3 < 2 ^ 31 ∧ s.n < 2 ^ 31) ∧ ((s.n ≤ x3 → (CtM g M_X10_align [.ref x0, .int (nI 81), .int (nI 82)] x0 s (fun r s3 => r = none ∧ (CtM g M_X10_compare [.ref x0, .int (nI 82), .int (nI 81)] x0 s3 (fun r s6 => ∃ v7 : Int32, r = some (.int v7) ∧ ((¬ x2 = (-1) → ((0 ≤ v7 → ((0 ≤ v7 → (CtM g M_X10_take [.ref x0, .int (nI 82), .int (nI 81)] x0 s6 (fun r s10 => r = none ∧ (CtM g M_X10_partOf [.ref x0, .int (nI 82), .int x2] x0 s10 (fun r s13 => ∃ v14 : Nat, r = some (.long (lN v14)) ∧ (Q (some (.long (lN v14))) s13)))))) ∧ (¬ 0 ≤ v7 → (CtM g M_X10_take [.ref x0, .int (nI 82), .int (nI 82)] x0 s6 (fun r s17 => r = none ∧ (CtM g M_X10_partOf [.ref x0, .int (nI 82), .int x2] x0 s17 (fun r s20 => ∃ v21 : Nat, r = some (.long (lN v21)) ∧ (Q (some (.long (lN v21))) s20)))))))) ∧ (¬ 0 ≤ v7 → ((0 ≤ v7 → (CtM g M_X10_take [.ref x0, .int (nI 81), .int (nI 81)] x0 s6 (fun r s24 => r = none ∧ (CtM g M_X10_partOf [.ref x0, .int (nI 81), .int x2] x0 s24 (fun r s27 => ∃ v28 : Nat, r = some (.long (lN v28)) ∧ (Q (some (.long (lN v28))) s27)))))) ∧ (¬ 0 ≤ v7 → (CtM g M_X10_take [.ref x0, .int (nI 81), .int (nI 82)] x0 s6 (fun r s31 => r = none ∧ (CtM g M_X10_partOf [.ref x0, .int (nI 81), .int x2] x0 s31 (fun r s34 => ∃ v35 : Nat, r = some (.long (lN v35)) ∧ (Q (some (.long (lN v35))) s34)))))))))) ∧ (x2 = (-1) → (Q (some (.long (v7.toInt64))) s6)))))))) ∧ (x3 < s.n → (CtM g M_X10_copy [.ref x0, .int (((nI 6) * x1) + (nI x3)), .int (nI 74)] x0 s (fun r s38 => r = none ∧ (x3 < 6 ∧ (((s38.ws x3) = (lN 0) → BlkM g M_X10_worth x0 Q 33 [(0, .ref x0), (1, .int x1), (2, .int x2), (3, .int (nI (x3 + 1)))] [] s38) ∧ (¬ (s38.ws x3) = (lN 0) → (((lN 0) ≤ (s38.ws x3) → (CtM g M_X10_times [.ref x0, .int (nI 74), .long (s38.ws x3)] x0 s38 (fun r s41 => r = none ∧ (CtM g M_X10_reduce [.ref x0, .int (nI 74)] x0 s41 (fun r s44 => r = none ∧ (((lN 0) ≤ (s38.ws x3) → (CtM g M_X10_add [.ref x0, .int (nI 82), .int (nI 74)] x0 s44 (fun r s47 => r = none ∧ BlkM g M_X10_worth x0 Q 33 [(0, .ref x0), (1, .int x1), (2, .int x2), (3, .int (nI (x3 + 1)))] [] s47))) ∧ (¬ (lN 0) ≤ (s38.ws x3) → (CtM g M_X10_add [.ref x0, .int (nI 81), .int (nI 74)] x0 s44 (fun r s50 => r = none ∧ BlkM g M_X10_worth x0 Q 33 [(0, .ref x0), (1, .int x1), (2, .int x2), (3, .int (nI (x3 + 1)))] [] s50))))))))) ∧ (¬ (lN 0) ≤ (s38.ws x3) → (CtM g M_X10_times [.ref x0, .int (nI 74), .long (-(s38.ws x3))] x0 s38 (fun r s53 => r = none ∧ (CtM g M_X10_reduce [.ref x0, .int (nI 74)] x0 s53 (fun r s56 => r = none ∧ (((lN 0) ≤ (s38.ws x3) → (CtM g M_X10_add [.ref x0, .int (nI 82), .int (nI 74)] x0 s56 (fun r s59 => r = none ∧ BlkM g M_X10_worth x0 Q 33 [(0, .ref x0), (1, .int x1), (2, .int x2), (3, .int (nI (x3 + 1)))] [] s59))) ∧ (¬ (lN 0) ≤ (s38.ws x3) → (CtM g M_X10_add [.ref x0, .int (nI 81), .int (nI 74)] x0 s56 (fun r s62 => r = none ∧ BlkM g M_X10_worth x0 Q 33 [(0, .ref x0), (1, .int x1), (2, .int x2), (3, .int (nI (x3 + 1)))] [] s62))))))))))))))))))) : BlkM g M_X10_worth x0 Q 33 [(0, .ref x0), (1, .int x1), (2, .int x2), (3, .int (nI x3))] [] s := by
  intro h0 h nx HO HM
  refine r_iload_n 3 dX10_worth_33 rfl rfl ?_
  refine r_aload_n 0 dX10_worth_34 rfl rfl ?_
  refine r_getf (ci := 11) (kf := 1) (T := TX10) rfl in_X10 (by decide) wF_X10_75 dX10_worth_35 (MAt.o_ HM) rfl ?_
  obtain ⟨c, V⟩ := V
  refine r_icmp_geN (tgt := 121) dX10_worth_38 (by decide) c (fun c => ?_) (fun c => ?_)
  · have V := V.1 c
    refine r_aload_n 0 dX10_worth_121 rfl rfl ?_
    refine r_bipush (v := (nI 81)) dX10_worth_122 rfl ?_
    refine r_bipush (v := (nI 82)) dX10_worth_124 rfl ?_
    refine r_callV (M2 := M_X10_align) (ci := 11) (n := 2) (As := [.int (nI 81), .int (nI 82)]) rfl (wl5 wM_X10_236 wi_X10_align wS_X10_align wI_StateSharesModel wc_X10_align) (by decide +kernel) (by decide) rfl rfl (Nat.le_of_ble_eq_true rfl) dX10_worth_126 (MAt.o_ HM) (by decide) (by decide) (Ct.imp (V _ _ HM) (fun r h1 n2 V => ?_))
    obtain ⟨rfl, Oh1, s3, HMh1, V⟩ := V
    have HOh1 := Off.tr HO Oh1
    obtain ⟨rfl, V⟩ := V
    show Blk g M_X10_worth (pM x0 h0 nx Q) 129 [(0, .ref x0), (1, .int x1), (2, .int x2), (3, .int (nI x3))] [] h1 nx 0 0
    refine r_aload_n 0 dX10_worth_129 rfl rfl ?_
    refine r_bipush (v := (nI 82)) dX10_worth_130 rfl ?_
    refine r_bipush (v := (nI 81)) dX10_worth_132 rfl ?_
    refine r_callV (M2 := M_X10_compare) (ci := 11) (n := 2) (As := [.int (nI 82), .int (nI 81)]) rfl (wl5 wM_X10_242 wi_X10_compare wS_X10_compare wI_StateSharesModel wc_X10_compare) (by decide +kernel) (by decide) rfl rfl (Nat.le_of_ble_eq_true rfl) dX10_worth_134 (MAt.o_ HMh1) (by decide) (by decide) (Ct.imp (V _ _ HMh1) (fun r h4 n5 V => ?_))
    obtain ⟨rfl, Oh4, s6, HMh4, V⟩ := V
    have HOh4 := Off.tr HOh1 Oh4
    obtain ⟨v7, rfl, V⟩ := V
    show Blk g M_X10_worth (pM x0 h0 nx Q) 137 [(0, .ref x0), (1, .int x1), (2, .int x2), (3, .int (nI x3))] [.int v7] h4 nx 0 0
    refine r_istore_n (L' := [(3, .int v7), (0, .ref x0), (1, .int x1), (2, .int x2)]) dX10_worth_137 rfl (by decide) rfl ?_
    refine r_iload_n 3 dX10_worth_138 rfl rfl ?_
    refine r_iconst (v := (-1)) dX10_worth_139 rfl ?_
    refine r_icmp_ne (tgt := 146) dX10_worth_140 (by decide) (fun c => ?_) (fun c => ?_)
    · have V := V.1 c
      refine r_iload_n 0 dX10_worth_146 rfl rfl ?_
      refine r_if_ge (tgt := 155) dX10_worth_147 (by decide) (fun c => ?_) (fun c => ?_)
      · have V := V.1 c
        refine r_bipush (v := (nI 82)) dX10_worth_155 rfl ?_
        refine r_istore (L' := [(4, .int (nI 82)), (3, .int v7), (0, .ref x0), (1, .int x1), (2, .int x2)]) dX10_worth_157 (by decide) rfl ?_
        refine r_aload_n 2 dX10_worth_159 rfl rfl ?_
        refine r_iload 0 dX10_worth_160 rfl ?_
        refine r_iload_n 1 dX10_worth_162 rfl rfl ?_
        refine r_if_ge (tgt := 171) dX10_worth_163 (by decide) (fun c => ?_) (fun c => ?_)
        · have V := V.1 c
          refine r_bipush (v := (nI 81)) dX10_worth_171 rfl ?_
          refine r_callV (M2 := M_X10_take) (ci := 11) (n := 2) (As := [.int (nI 82), .int (nI 81)]) rfl (wl5 wM_X10_253 wi_X10_take wS_X10_take wI_StateSharesModel wc_X10_take) (by decide +kernel) (by decide) rfl rfl (Nat.le_of_ble_eq_true rfl) dX10_worth_173 (MAt.o_ HMh4) (by decide) (by decide) (Ct.imp (V _ _ HMh4) (fun r h8 n9 V => ?_))
          obtain ⟨rfl, Oh8, s10, HMh8, V⟩ := V
          have HOh8 := Off.tr HOh4 Oh8
          obtain ⟨rfl, V⟩ := V
          show Blk g M_X10_worth (pM x0 h0 nx Q) 176 [(4, .int (nI 82)), (3, .int v7), (0, .ref x0), (1, .int x1), (2, .int x2)] [] h8 nx 0 0
          refine r_aload_n 2 dX10_worth_176 rfl rfl ?_
          refine r_iload 0 dX10_worth_177 rfl ?_
          refine r_iload_n 4 dX10_worth_179 rfl rfl ?_
          refine r_callV (M2 := M_X10_partOf) (ci := 11) (n := 2) (As := [.int (nI 82), .int x2]) rfl (wl5 wM_X10_281 wi_X10_partOf wS_X10_partOf wI_StateSharesModel wc_X10_partOf) (by decide +kernel) (by decide) rfl rfl (Nat.le_of_ble_eq_true rfl) dX10_worth_180 (MAt.o_ HMh8) (by decide) (by decide) (Ct.imp (V _ _ HMh8) (fun r h11 n12 V => ?_))
          obtain ⟨rfl, Oh11, s13, HMh11, V⟩ := V
          have HOh11 := Off.tr HOh8 Oh11
          obtain ⟨v14, rfl, V⟩ := V
          show Blk g M_X10_worth (pM x0 h0 nx Q) 183 [(4, .int (nI 82)), (3, .int v7), (0, .ref x0), (1, .int x1), (2, .int x2)] [.long (lN v14)] h11 nx 0 0
          exact r_lret dX10_worth_183 rfl (by decide) (by decide) ⟨rfl, HOh11, _, HMh11, V⟩
        · have V := V.2 c
          refine r_bipush (v := (nI 82)) dX10_worth_166 rfl ?_
          refine r_goto (tgt := 173) dX10_worth_168 (by decide) ?_
          refine r_callV (M2 := M_X10_take) (ci := 11) (n := 2) (As := [.int (nI 82), .int (nI 82)]) rfl (wl5 wM_X10_253 wi_X10_take wS_X10_take wI_StateSharesModel wc_X10_take) (by decide +kernel) (by decide) rfl rfl (Nat.le_of_ble_eq_true rfl) dX10_worth_173 (MAt.o_ HMh4) (by decide) (by decide) (Ct.imp (V _ _ HMh4) (fun r h15 n16 V => ?_))
          obtain ⟨rfl, Oh15, s17, HMh15, V⟩ := V
          have HOh15 := Off.tr HOh4 Oh15
          obtain ⟨rfl, V⟩ := V
          show Blk g M_X10_worth (pM x0 h0 nx Q) 176 [(4, .int (nI 82)), (3, .int v7), (0, .ref x0), (1, .int x1), (2, .int x2)] [] h15 nx 0 0
          refine r_aload_n 2 dX10_worth_176 rfl rfl ?_
          refine r_iload 0 dX10_worth_177 rfl ?_
          refine r_iload_n 4 dX10_worth_179 rfl rfl ?_
          refine r_callV (M2 := M_X10_partOf) (ci := 11) (n := 2) (As := [.int (nI 82), .int x2]) rfl (wl5 wM_X10_281 wi_X10_partOf wS_X10_partOf wI_StateSharesModel wc_X10_partOf) (by decide +kernel) (by decide) rfl rfl (Nat.le_of_ble_eq_true rfl) dX10_worth_180 (MAt.o_ HMh15) (by decide) (by decide) (Ct.imp (V _ _ HMh15) (fun r h18 n19 V => ?_))
          obtain ⟨rfl, Oh18, s20, HMh18, V⟩ := V
          have HOh18 := Off.tr HOh15 Oh18
          obtain ⟨v21, rfl, V⟩ := V
          show Blk g M_X10_worth (pM x0 h0 nx Q) 183 [(4, .int (nI 82)), (3, .int v7), (0, .ref x0), (1, .int x1), (2, .int x2)] [.long (lN v21)] h18 nx 0 0
          exact r_lret dX10_worth_183 rfl (by decide) (by decide) ⟨rfl, HOh18, _, HMh18, V⟩
      · have V := V.2 c
        refine r_bipush (v := (nI 81)) dX10_worth_150 rfl ?_
        refine r_goto (tgt := 157) dX10_worth_152 (by decide) ?_
        refine r_istore (L' := [(4, .int (nI 81)), (3, .int v7), (0, .ref x0), (1, .int x1), (2, .int x2)]) dX10_worth_157 (by decide) rfl ?_
        refine r_aload_n 2 dX10_worth_159 rfl rfl ?_
        refine r_iload 0 dX10_worth_160 rfl ?_
        refine r_iload_n 1 dX10_worth_162 rfl rfl ?_
        refine r_if_ge (tgt := 171) dX10_worth_163 (by decide) (fun c => ?_) (fun c => ?_)
        · have V := V.1 c
          refine r_bipush (v := (nI 81)) dX10_worth_171 rfl ?_
          refine r_callV (M2 := M_X10_take) (ci := 11) (n := 2) (As := [.int (nI 81), .int (nI 81)]) rfl (wl5 wM_X10_253 wi_X10_take wS_X10_take wI_StateSharesModel wc_X10_take) (by decide +kernel) (by decide) rfl rfl (Nat.le_of_ble_eq_true rfl) dX10_worth_173 (MAt.o_ HMh4) (by decide) (by decide) (Ct.imp (V _ _ HMh4) (fun r h22 n23 V => ?_))
          obtain ⟨rfl, Oh22, s24, HMh22, V⟩ := V
          have HOh22 := Off.tr HOh4 Oh22
          obtain ⟨rfl, V⟩ := V
          show Blk g M_X10_worth (pM x0 h0 nx Q) 176 [(4, .int (nI 81)), (3, .int v7), (0, .ref x0), (1, .int x1), (2, .int x2)] [] h22 nx 0 0
          refine r_aload_n 2 dX10_worth_176 rfl rfl ?_
          refine r_iload 0 dX10_worth_177 rfl ?_
          refine r_iload_n 4 dX10_worth_179 rfl rfl ?_
          refine r_callV (M2 := M_X10_partOf) (ci := 11) (n := 2) (As := [.int (nI 81), .int x2]) rfl (wl5 wM_X10_281 wi_X10_partOf wS_X10_partOf wI_StateSharesModel wc_X10_partOf) (by decide +kernel) (by decide) rfl rfl (Nat.le_of_ble_eq_true rfl) dX10_worth_180 (MAt.o_ HMh22) (by decide) (by decide) (Ct.imp (V _ _ HMh22) (fun r h25 n26 V => ?_))
          obtain ⟨rfl, Oh25, s27, HMh25, V⟩ := V
          have HOh25 := Off.tr HOh22 Oh25
          obtain ⟨v28, rfl, V⟩ := V
          show Blk g M_X10_worth (pM x0 h0 nx Q) 183 [(4, .int (nI 81)), (3, .int v7), (0, .ref x0), (1, .int x1), (2, .int x2)] [.long (lN v28)] h25 nx 0 0
          exact r_lret dX10_worth_183 rfl (by decide) (by decide) ⟨rfl, HOh25, _, HMh25, V⟩
        · have V := V.2 c
          refine r_bipush (v := (nI 82)) dX10_worth_166 rfl ?_
          refine r_goto (tgt := 173) dX10_worth_168 (by decide) ?_
          refine r_callV (M2 := M_X10_take) (ci := 11) (n := 2) (As := [.int (nI 81), .int (nI 82)]) rfl (wl5 wM_X10_253 wi_X10_take wS_X10_take wI_StateSharesModel wc_X10_take) (by decide +kernel) (by decide) rfl rfl (Nat.le_of_ble_eq_true rfl) dX10_worth_173 (MAt.o_ HMh4) (by decide) (by decide) (Ct.imp (V _ _ HMh4) (fun r h29 n30 V => ?_))
          obtain ⟨rfl, Oh29, s31, HMh29, V⟩ := V
          have HOh29 := Off.tr HOh4 Oh29
          obtain ⟨rfl, V⟩ := V
          show Blk g M_X10_worth (pM x0 h0 nx Q) 176 [(4, .int (nI 81)), (3, .int v7), (0, .ref x0), (1, .int x1), (2, .int x2)] [] h29 nx 0 0
          refine r_aload_n 2 dX10_worth_176 rfl rfl ?_
          refine r_iload 0 dX10_worth_177 rfl ?_
          refine r_iload_n 4 dX10_worth_179 rfl rfl ?_
          refine r_callV (M2 := M_X10_partOf) (ci := 11) (n := 2) (As := [.int (nI 81), .int x2]) rfl (wl5 wM_X10_281 wi_X10_partOf wS_X10_partOf wI_StateSharesModel wc_X10_partOf) (by decide +kernel) (by decide) rfl rfl (Nat.le_of_ble_eq_true rfl) dX10_worth_180 (MAt.o_ HMh29) (by decide) (by decide) (Ct.imp (V _ _ HMh29) (fun r h32 n33 V => ?_))
          obtain ⟨rfl, Oh32, s34, HMh32, V⟩ := V
          have HOh32 := Off.tr HOh29 Oh32
          obtain ⟨v35, rfl, V⟩ := V
          show Blk g M_X10_worth (pM x0 h0 nx Q) 183 [(4, .int (nI 81)), (3, .int v7), (0, .ref x0), (1, .int x1), (2, .int x2)] [.long (lN v35)] h32 nx 0 0
          exact r_lret dX10_worth_183 rfl (by decide) (by decide) ⟨rfl, HOh32, _, HMh32, V⟩
    · have V := V.2 c
      refine r_iload_n 0 dX10_worth_143 rfl rfl ?_
      refine r_i2l dX10_worth_144 ?_
      exact r_lret dX10_worth_145 rfl (by decide) (by decide) ⟨rfl, HOh4, _, HMh4, V⟩
  · have V := V.2 c
    refine r_aload_n 0 dX10_worth_41 rfl rfl ?_
    refine r_bipush (v := (nI 6)) dX10_worth_42 rfl ?_
    refine r_iload_n 1 dX10_worth_44 rfl rfl ?_
    refine r_imul dX10_worth_45 ?_
    refine r_iload_n 3 dX10_worth_46 rfl rfl ?_
    refine r_iadd dX10_worth_47 ?_
    refine r_bipush (v := (nI 74)) dX10_worth_48 rfl ?_
    refine r_callV (M2 := M_X10_copy) (ci := 11) (n := 2) (As := [.int (((nI 6) * x1) + (nI x3)), .int (nI 74)]) rfl (wl5 wM_X10_232 wi_X10_copy wS_X10_copy wI_StateSharesModel wc_X10_copy) (by decide +kernel) (by decide) rfl rfl (Nat.le_of_ble_eq_true rfl) dX10_worth_50 (MAt.o_ HM) (by decide) (by decide) (Ct.imp (V _ _ HM) (fun r h36 n37 V => ?_))
    obtain ⟨rfl, Oh36, s38, HMh36, V⟩ := V
    have HOh36 := Off.tr HO Oh36
    obtain ⟨rfl, V⟩ := V
    show Blk g M_X10_worth (pM x0 h0 nx Q) 53 [(0, .ref x0), (1, .int x1), (2, .int x2), (3, .int (nI x3))] [] h36 nx 0 0
    refine r_aload_n 0 dX10_worth_53 rfl rfl ?_
    refine r_getf (ci := 11) (kf := 25) (T := TX10) rfl in_X10 (by decide) wF_X10_55 dX10_worth_54 (MAt.o_ HMh36) rfl ?_
    refine r_iload_n 3 dX10_worth_57 rfl rfl ?_
    obtain ⟨c, V⟩ := V
    refine r_lald dX10_worth_58 (MAt.g_ws HMh36) rfl c (by decide) ?_
    show Blk g M_X10_worth (pM x0 h0 nx Q) 59 [(0, .ref x0), (1, .int x1), (2, .int x2), (3, .int (nI x3))] [.long (s38.ws x3)] h36 nx 0 0
    refine r_lstore (L' := [(4, .long (s38.ws x3)), (0, .ref x0), (1, .int x1), (2, .int x2), (3, .int (nI x3))]) dX10_worth_59 (by decide) rfl ?_
    refine r_lload 0 dX10_worth_61 rfl ?_
    refine r_lconst (v := (lN 0)) dX10_worth_63 rfl ?_
    refine r_lcmp dX10_worth_64 ?_
    refine r_if_eq (tgt := 115) dX10_worth_65 (by decide) (fun c => ?_) (fun c => ?_)
    · have V := V.1 ((lg_cmp_eq _ _).mp c)
      refine r_iincN 4 (b := 1) (L' := [(3, .int (nI (x3 + 1))), (4, .long (s38.ws x3)), (0, .ref x0), (1, .int x1), (2, .int x2)]) dX10_worth_115 rfl rfl (by decide) rfl ?_
      refine r_goto (tgt := 33) dX10_worth_118 (by decide) ?_
      exact Blk.sub [2, 3, 4, 0] rfl (V _ _ _ HOh36 HMh36)
    · have V := V.2 (fun q => c ((lg_cmp_eq _ _).mpr q))
      refine r_aload_n 1 dX10_worth_68 rfl rfl ?_
      refine r_bipush (v := (nI 74)) dX10_worth_69 rfl ?_
      refine r_lload 0 dX10_worth_71 rfl ?_
      refine r_lconst (v := (lN 0)) dX10_worth_73 rfl ?_
      refine r_lcmp dX10_worth_74 ?_
      refine r_if_ge (tgt := 84) dX10_worth_75 (by decide) (fun c => ?_) (fun c => ?_)
      · have V := V.1 ((lg_cmp_ge _ _).mp c)
        refine r_lload 0 dX10_worth_84 rfl ?_
        refine r_callV (M2 := M_X10_times) (ci := 11) (n := 2) (As := [.int (nI 74), .long (s38.ws x3)]) rfl (wl5 wM_X10_88 wi_X10_times wS_X10_times wI_StateSharesModel wc_X10_times) (by decide +kernel) (by decide) rfl rfl (Nat.le_of_ble_eq_true rfl) dX10_worth_86 (MAt.o_ HMh36) (by decide) (by decide) (Ct.imp (V _ _ HMh36) (fun r h39 n40 V => ?_))
        obtain ⟨rfl, Oh39, s41, HMh39, V⟩ := V
        have HOh39 := Off.tr HOh36 Oh39
        obtain ⟨rfl, V⟩ := V
        show Blk g M_X10_worth (pM x0 h0 nx Q) 89 [(4, .long (s38.ws x3)), (0, .ref x0), (1, .int x1), (2, .int x2), (3, .int (nI x3))] [] h39 nx 0 0
        refine r_aload_n 1 dX10_worth_89 rfl rfl ?_
        refine r_bipush (v := (nI 74)) dX10_worth_90 rfl ?_
        refine r_callV (M2 := M_X10_reduce) (ci := 11) (n := 1) (As := [.int (nI 74)]) rfl (wl5 wM_X10_229 wi_X10_reduce wS_X10_reduce wI_StateSharesModel wc_X10_reduce) (by decide +kernel) (by decide) rfl rfl (Nat.le_of_ble_eq_true rfl) dX10_worth_92 (MAt.o_ HMh39) (by decide) (by decide) (Ct.imp (V _ _ HMh39) (fun r h42 n43 V => ?_))
        obtain ⟨rfl, Oh42, s44, HMh42, V⟩ := V
        have HOh42 := Off.tr HOh39 Oh42
        obtain ⟨rfl, V⟩ := V
        show Blk g M_X10_worth (pM x0 h0 nx Q) 95 [(4, .long (s38.ws x3)), (0, .ref x0), (1, .int x1), (2, .int x2), (3, .int (nI x3))] [] h42 nx 0 0
        refine r_aload_n 1 dX10_worth_95 rfl rfl ?_
        refine r_lload 0 dX10_worth_96 rfl ?_
        refine r_lconst (v := (lN 0)) dX10_worth_98 rfl ?_
        refine r_lcmp dX10_worth_99 ?_
        refine r_if_ge (tgt := 108) dX10_worth_100 (by decide) (fun c => ?_) (fun c => ?_)
        · have V := V.1 ((lg_cmp_ge _ _).mp c)
          refine r_bipush (v := (nI 82)) dX10_worth_108 rfl ?_
          refine r_bipush (v := (nI 74)) dX10_worth_110 rfl ?_
          refine r_callV (M2 := M_X10_add) (ci := 11) (n := 2) (As := [.int (nI 82), .int (nI 74)]) rfl (wl5 wM_X10_256 wi_X10_add wS_X10_add wI_StateSharesModel wc_X10_add) (by decide +kernel) (by decide) rfl rfl (Nat.le_of_ble_eq_true rfl) dX10_worth_112 (MAt.o_ HMh42) (by decide) (by decide) (Ct.imp (V _ _ HMh42) (fun r h45 n46 V => ?_))
          obtain ⟨rfl, Oh45, s47, HMh45, V⟩ := V
          have HOh45 := Off.tr HOh42 Oh45
          obtain ⟨rfl, V⟩ := V
          show Blk g M_X10_worth (pM x0 h0 nx Q) 115 [(4, .long (s38.ws x3)), (0, .ref x0), (1, .int x1), (2, .int x2), (3, .int (nI x3))] [] h45 nx 0 0
          refine r_iincN 4 (b := 1) (L' := [(3, .int (nI (x3 + 1))), (4, .long (s38.ws x3)), (0, .ref x0), (1, .int x1), (2, .int x2)]) dX10_worth_115 rfl rfl (by decide) rfl ?_
          refine r_goto (tgt := 33) dX10_worth_118 (by decide) ?_
          exact Blk.sub [2, 3, 4, 0] rfl (V _ _ _ HOh45 HMh45)
        · have V := V.2 (fun q => c ((lg_cmp_ge _ _).mpr q))
          refine r_bipush (v := (nI 81)) dX10_worth_103 rfl ?_
          refine r_goto (tgt := 110) dX10_worth_105 (by decide) ?_
          refine r_bipush (v := (nI 74)) dX10_worth_110 rfl ?_
          refine r_callV (M2 := M_X10_add) (ci := 11) (n := 2) (As := [.int (nI 81), .int (nI 74)]) rfl (wl5 wM_X10_256 wi_X10_add wS_X10_add wI_StateSharesModel wc_X10_add) (by decide +kernel) (by decide) rfl rfl (Nat.le_of_ble_eq_true rfl) dX10_worth_112 (MAt.o_ HMh42) (by decide) (by decide) (Ct.imp (V _ _ HMh42) (fun r h48 n49 V => ?_))
          obtain ⟨rfl, Oh48, s50, HMh48, V⟩ := V
          have HOh48 := Off.tr HOh42 Oh48
          obtain ⟨rfl, V⟩ := V
          show Blk g M_X10_worth (pM x0 h0 nx Q) 115 [(4, .long (s38.ws x3)), (0, .ref x0), (1, .int x1), (2, .int x2), (3, .int (nI x3))] [] h48 nx 0 0
          refine r_iincN 4 (b := 1) (L' := [(3, .int (nI (x3 + 1))), (4, .long (s38.ws x3)), (0, .ref x0), (1, .int x1), (2, .int x2)]) dX10_worth_115 rfl rfl (by decide) rfl ?_
          refine r_goto (tgt := 33) dX10_worth_118 (by decide) ?_
          exact Blk.sub [2, 3, 4, 0] rfl (V _ _ _ HOh48 HMh48)
      · have V := V.2 (fun q => c ((lg_cmp_ge _ _).mpr q))
        refine r_lload 0 dX10_worth_78 rfl ?_
        refine r_lneg dX10_worth_80 ?_
        refine r_goto (tgt := 86) dX10_worth_81 (by decide) ?_
        refine r_callV (M2 := M_X10_times) (ci := 11) (n := 2) (As := [.int (nI 74), .long (-(s38.ws x3))]) rfl (wl5 wM_X10_88 wi_X10_times wS_X10_times wI_StateSharesModel wc_X10_times) (by decide +kernel) (by decide) rfl rfl (Nat.le_of_ble_eq_true rfl) dX10_worth_86 (MAt.o_ HMh36) (by decide) (by decide) (Ct.imp (V _ _ HMh36) (fun r h51 n52 V => ?_))
        obtain ⟨rfl, Oh51, s53, HMh51, V⟩ := V
        have HOh51 := Off.tr HOh36 Oh51
        obtain ⟨rfl, V⟩ := V
        show Blk g M_X10_worth (pM x0 h0 nx Q) 89 [(4, .long (s38.ws x3)), (0, .ref x0), (1, .int x1), (2, .int x2), (3, .int (nI x3))] [] h51 nx 0 0
        refine r_aload_n 1 dX10_worth_89 rfl rfl ?_
        refine r_bipush (v := (nI 74)) dX10_worth_90 rfl ?_
        refine r_callV (M2 := M_X10_reduce) (ci := 11) (n := 1) (As := [.int (nI 74)]) rfl (wl5 wM_X10_229 wi_X10_reduce wS_X10_reduce wI_StateSharesModel wc_X10_reduce) (by decide +kernel) (by decide) rfl rfl (Nat.le_of_ble_eq_true rfl) dX10_worth_92 (MAt.o_ HMh51) (by decide) (by decide) (Ct.imp (V _ _ HMh51) (fun r h54 n55 V => ?_))
        obtain ⟨rfl, Oh54, s56, HMh54, V⟩ := V
        have HOh54 := Off.tr HOh51 Oh54
        obtain ⟨rfl, V⟩ := V
        show Blk g M_X10_worth (pM x0 h0 nx Q) 95 [(4, .long (s38.ws x3)), (0, .ref x0), (1, .int x1), (2, .int x2), (3, .int (nI x3))] [] h54 nx 0 0
        refine r_aload_n 1 dX10_worth_95 rfl rfl ?_
        refine r_lload 0 dX10_worth_96 rfl ?_
        refine r_lconst (v := (lN 0)) dX10_worth_98 rfl ?_
        refine r_lcmp dX10_worth_99 ?_
        refine r_if_ge (tgt := 108) dX10_worth_100 (by decide) (fun c => ?_) (fun c => ?_)
        · have V := V.1 ((lg_cmp_ge _ _).mp c)
          refine r_bipush (v := (nI 82)) dX10_worth_108 rfl ?_
          refine r_bipush (v := (nI 74)) dX10_worth_110 rfl ?_
          refine r_callV (M2 := M_X10_add) (ci := 11) (n := 2) (As := [.int (nI 82), .int (nI 74)]) rfl (wl5 wM_X10_256 wi_X10_add wS_X10_add wI_StateSharesModel wc_X10_add) (by decide +kernel) (by decide) rfl rfl (Nat.le_of_ble_eq_true rfl) dX10_worth_112 (MAt.o_ HMh54) (by decide) (by decide) (Ct.imp (V _ _ HMh54) (fun r h57 n58 V => ?_))
          obtain ⟨rfl, Oh57, s59, HMh57, V⟩ := V
          have HOh57 := Off.tr HOh54 Oh57
          obtain ⟨rfl, V⟩ := V
          show Blk g M_X10_worth (pM x0 h0 nx Q) 115 [(4, .long (s38.ws x3)), (0, .ref x0), (1, .int x1), (2, .int x2), (3, .int (nI x3))] [] h57 nx 0 0
          refine r_iincN 4 (b := 1) (L' := [(3, .int (nI (x3 + 1))), (4, .long (s38.ws x3)), (0, .ref x0), (1, .int x1), (2, .int x2)]) dX10_worth_115 rfl rfl (by decide) rfl ?_
          refine r_goto (tgt := 33) dX10_worth_118 (by decide) ?_
          exact Blk.sub [2, 3, 4, 0] rfl (V _ _ _ HOh57 HMh57)
        · have V := V.2 (fun q => c ((lg_cmp_ge _ _).mpr q))
          refine r_bipush (v := (nI 81)) dX10_worth_103 rfl ?_
          refine r_goto (tgt := 110) dX10_worth_105 (by decide) ?_
          refine r_bipush (v := (nI 74)) dX10_worth_110 rfl ?_
          refine r_callV (M2 := M_X10_add) (ci := 11) (n := 2) (As := [.int (nI 81), .int (nI 74)]) rfl (wl5 wM_X10_256 wi_X10_add wS_X10_add wI_StateSharesModel wc_X10_add) (by decide +kernel) (by decide) rfl rfl (Nat.le_of_ble_eq_true rfl) dX10_worth_112 (MAt.o_ HMh54) (by decide) (by decide) (Ct.imp (V _ _ HMh54) (fun r h60 n61 V => ?_))
          obtain ⟨rfl, Oh60, s62, HMh60, V⟩ := V
          have HOh60 := Off.tr HOh54 Oh60
          obtain ⟨rfl, V⟩ := V
          show Blk g M_X10_worth (pM x0 h0 nx Q) 115 [(4, .long (s38.ws x3)), (0, .ref x0), (1, .int x1), (2, .int x2), (3, .int (nI x3))] [] h60 nx 0 0
          refine r_iincN 4 (b := 1) (L' := [(3, .int (nI (x3 + 1))), (4, .long (s38.ws x3)), (0, .ref x0), (1, .int x1), (2, .int x2)]) dX10_worth_115 rfl rfl (by decide) rfl ?_
          refine r_goto (tgt := 33) dX10_worth_118 (by decide) ?_
          exact Blk.sub [2, 3, 4, 0] rfl (V _ _ _ HOh60 HMh60)
set_option maxRecDepth 20000 in
theorem v_X10_first_0 {g : xG} {Q : mQ} {s : MV} {x0 : Nat} {x1 : Nat} (V : (CtM g M_X10_gradeOf [.ref x0, .int (nI x1), .int (nI 0)] x0 s (fun r s3 => ∃ v4 : Int32, r = some (.int v4) ∧ BlkM g M_X10_first x0 Q 9 [(0, .ref x0), (1, .int (nI x1)), (2, .int v4), (3, .int (nI 0))] [] s3))) : BlkM g M_X10_first x0 Q 0 [(0, .ref x0), (1, .int (nI x1))] [] s := by
  intro h0 h nx HO HM
  refine r_aload_n 0 dX10_first_0 rfl rfl ?_
  refine r_iload_n 1 dX10_first_1 rfl rfl ?_
  refine r_iconst (v := (nI 0)) dX10_first_2 rfl ?_
  refine r_callV (M2 := M_X10_gradeOf) (ci := 11) (n := 2) (As := [.int (nI x1), .int (nI 0)]) rfl (wl5 wM_X10_184 wi_X10_gradeOf wS_X10_gradeOf wI_StateSharesModel wc_X10_gradeOf) (by decide +kernel) (by decide) rfl rfl (Nat.le_of_ble_eq_true rfl) dX10_first_3 (MAt.o_ HM) (by decide) (by decide) (Ct.imp (V _ _ HM) (fun r h1 n2 V => ?_))
  obtain ⟨rfl, Oh1, s3, HMh1, V⟩ := V
  have HOh1 := Off.tr HO Oh1
  obtain ⟨v4, rfl, V⟩ := V
  show Blk g M_X10_first (pM x0 h0 nx Q) 6 [(0, .ref x0), (1, .int (nI x1))] [.int v4] h1 nx 0 0
  refine r_istore_n (L' := [(2, .int v4), (0, .ref x0), (1, .int (nI x1))]) dX10_first_6 rfl (by decide) rfl ?_
  refine r_iconst (v := (nI 0)) dX10_first_7 rfl ?_
  refine r_istore_n (L' := [(3, .int (nI 0)), (2, .int v4), (0, .ref x0), (1, .int (nI x1))]) dX10_first_8 rfl (by decide) rfl ?_
  exact Blk.sub [2, 3, 1, 0] rfl (V _ _ _ HOh1 HMh1)
set_option maxRecDepth 20000 in
theorem v_X10_first_9 {g : xG} {Q : mQ} {s : MV} {x0 : Nat} {x1 : Nat} {x2 : Int32} {x3 : Nat} (V : ((x3 < 2 ^ 31 ∧ 10 < 2 ^ 31) ∧ ((10 ≤ x3 → ((¬ x2 = (-1) → (Q (some (.int x2)) s)) ∧ (x2 = (-1) → (Q (some (.int (nI 0))) s)))) ∧ (x3 < 10 → ((¬ x2 = (-1) → ((¬ x2 = (-1) → (Q (some (.int x2)) s)) ∧ (x2 = (-1) → (Q (some (.int (nI 0))) s)))) ∧ (x2 = (-1) → (x3 < 10 ∧ (x1 < 10 ∧ (((s.kd x3) < 2 ^ 31 ∧ (s.kd x1) < 2 ^ 31) ∧ ((¬ (s.kd x3) = (s.kd x1) → BlkM g M_X10_first x0 Q 9 [(0, .ref x0), (1, .int (nI x1)), (2, .int (-1)), (3, .int (nI (x3 + 1)))] [] s) ∧ ((s.kd x3) = (s.kd x1) → (CtM g M_X10_gradeOf [.ref x0, .int (nI x3), .int (nI 0)] x0 s (fun r s3 => ∃ v4 : Int32, r = some (.int v4) ∧ BlkM g M_X10_first x0 Q 9 [(0, .ref x0), (1, .int (nI x1)), (2, .int v4), (3, .int (nI (x3 + 1)))] [] s3))))))))))))) : BlkM g M_X10_first x0 Q 9 [(0, .ref x0), (1, .int (nI x1)), (2, .int x2), (3, .int (nI x3))] [] s := by
  intro h0 h nx HO HM
  refine r_iload_n 3 dX10_first_9 rfl rfl ?_
  refine r_bipush (v := (nI 10)) dX10_first_10 rfl ?_
  obtain ⟨c, V⟩ := V
  refine r_icmp_geN (tgt := 52) dX10_first_12 (by decide) c (fun c => ?_) (fun c => ?_)
  · have V := V.1 c
    refine r_iload_n 2 dX10_first_52 rfl rfl ?_
    refine r_iconst (v := (-1)) dX10_first_53 rfl ?_
    refine r_icmp_ne (tgt := 61) dX10_first_54 (by decide) (fun c => ?_) (fun c => ?_)
    · have V := V.1 c
      refine r_iload_n 2 dX10_first_61 rfl rfl ?_
      exact r_iret dX10_first_62 rfl (by decide) (by decide) ⟨rfl, HO, _, HM, V⟩
    · have V := V.2 c
      refine r_iconst (v := (nI 0)) dX10_first_57 rfl ?_
      refine r_goto (tgt := 62) dX10_first_58 (by decide) ?_
      exact r_iret dX10_first_62 rfl (by decide) (by decide) ⟨rfl, HO, _, HM, V⟩
  · have V := V.2 c
    refine r_iload_n 2 dX10_first_15 rfl rfl ?_
    refine r_iconst (v := (-1)) dX10_first_16 rfl ?_
    refine r_icmp_ne (tgt := 52) dX10_first_17 (by decide) (fun c => ?_) (fun c => ?_)
    · have V := V.1 c
      refine r_iload_n 2 dX10_first_52 rfl rfl ?_
      refine r_iconst (v := (-1)) dX10_first_53 rfl ?_
      refine r_icmp_ne (tgt := 61) dX10_first_54 (by decide) (fun c => ?_) (fun c => ?_)
      · have V := V.1 c
        refine r_iload_n 2 dX10_first_61 rfl rfl ?_
        exact r_iret dX10_first_62 rfl (by decide) (by decide) ⟨rfl, HO, _, HM, V⟩
      · have V := V.2 c
        refine r_iconst (v := (nI 0)) dX10_first_57 rfl ?_
        refine r_goto (tgt := 62) dX10_first_58 (by decide) ?_
        exact r_iret dX10_first_62 rfl (by decide) (by decide) ⟨rfl, HO, _, HM, V⟩
    · have V := V.2 c
      refine r_aload_n 0 dX10_first_20 rfl rfl ?_
      refine r_getf (ci := 11) (kf := 3) (T := TX10) rfl in_X10 (by decide) wF_X10_13 dX10_first_21 (MAt.o_ HM) rfl ?_
      refine r_iload_n 3 dX10_first_24 rfl rfl ?_
      obtain ⟨c, V⟩ := V
      refine r_iald dX10_first_25 (MAt.g_kd HM) rfl c (by decide) ?_
      show Blk g M_X10_first (pM x0 h0 nx Q) 26 [(0, .ref x0), (1, .int (nI x1)), (2, .int x2), (3, .int (nI x3))] [.int (nI (s.kd x3))] h nx 0 0
      refine r_aload_n 0 dX10_first_26 rfl rfl ?_
      refine r_getf (ci := 11) (kf := 3) (T := TX10) rfl in_X10 (by decide) wF_X10_13 dX10_first_27 (MAt.o_ HM) rfl ?_
      refine r_iload_n 1 dX10_first_30 rfl rfl ?_
      obtain ⟨c, V⟩ := V
      refine r_iald dX10_first_31 (MAt.g_kd HM) rfl c (by decide) ?_
      show Blk g M_X10_first (pM x0 h0 nx Q) 32 [(0, .ref x0), (1, .int (nI x1)), (2, .int x2), (3, .int (nI x3))] [.int (nI (s.kd x1)), .int (nI (s.kd x3))] h nx 0 0
      obtain ⟨c, V⟩ := V
      refine r_icmp_neN (tgt := 44) dX10_first_32 (by decide) c (fun c => ?_) (fun c => ?_)
      · have V := V.1 c
        refine r_iconst (v := (-1)) dX10_first_44 rfl ?_
        refine r_istore_n (L' := [(2, .int (-1)), (0, .ref x0), (1, .int (nI x1)), (3, .int (nI x3))]) dX10_first_45 rfl (by decide) rfl ?_
        refine r_iincN 3 (b := 1) (L' := [(3, .int (nI (x3 + 1))), (2, .int (-1)), (0, .ref x0), (1, .int (nI x1))]) dX10_first_46 rfl rfl (by decide) rfl ?_
        refine r_goto (tgt := 9) dX10_first_49 (by decide) ?_
        exact Blk.sub [2, 3, 1, 0] rfl (V _ _ _ HO HM)
      · have V := V.2 c
        refine r_aload_n 0 dX10_first_35 rfl rfl ?_
        refine r_iload_n 3 dX10_first_36 rfl rfl ?_
        refine r_iconst (v := (nI 0)) dX10_first_37 rfl ?_
        refine r_callV (M2 := M_X10_gradeOf) (ci := 11) (n := 2) (As := [.int (nI x3), .int (nI 0)]) rfl (wl5 wM_X10_184 wi_X10_gradeOf wS_X10_gradeOf wI_StateSharesModel wc_X10_gradeOf) (by decide +kernel) (by decide) rfl rfl (Nat.le_of_ble_eq_true rfl) dX10_first_38 (MAt.o_ HM) (by decide) (by decide) (Ct.imp (V _ _ HM) (fun r h1 n2 V => ?_))
        obtain ⟨rfl, Oh1, s3, HMh1, V⟩ := V
        have HOh1 := Off.tr HO Oh1
        obtain ⟨v4, rfl, V⟩ := V
        show Blk g M_X10_first (pM x0 h0 nx Q) 41 [(0, .ref x0), (1, .int (nI x1)), (2, .int x2), (3, .int (nI x3))] [.int v4] h1 nx 0 0
        refine r_goto (tgt := 45) dX10_first_41 (by decide) ?_
        refine r_istore_n (L' := [(2, .int v4), (0, .ref x0), (1, .int (nI x1)), (3, .int (nI x3))]) dX10_first_45 rfl (by decide) rfl ?_
        refine r_iincN 3 (b := 1) (L' := [(3, .int (nI (x3 + 1))), (2, .int v4), (0, .ref x0), (1, .int (nI x1))]) dX10_first_46 rfl rfl (by decide) rfl ?_
        refine r_goto (tgt := 9) dX10_first_49 (by decide) ?_
        exact Blk.sub [2, 3, 1, 0] rfl (V _ _ _ HOh1 HMh1)
set_option maxRecDepth 20000 in
theorem v_X10_drawn_0 {g : xG} {Q : mQ} {s : MV} {x0 : Nat} {x1 : Int64} {x3 : Int32} {x4 : Int32} (V : (CtM g M_X10_isPlace [.ref x0, .int x3, .int x4] x0 (MV.u_cd s 0) (fun r s4 => ∃ v5 : Nat, r = some (.int (nI v5)) ∧ (v5 < 2 ^ 31 ∧ ((¬ v5 = 0 → (CtM g M_X10_countAll [.ref x0] x0 s4 (fun r s8 => r = none ∧ (CtM g M_X10_first [.ref x0, .int x3] x0 s8 (fun r s11 => ∃ v12 : Int32, r = some (.int v12) ∧ (∃ z13 : Nat, v12 = nI z13 ∧ BlkM g M_X10_drawn x0 Q 31 [(0, .ref x0), (1, .long x1), (3, .int x3), (4, .int x4), (5, .int (nI z13)), (6, .int (nI 0))] [] s11)))))) ∧ (v5 = 0 → (Q (some (.int (-1))) s4))))))) : BlkM g M_X10_drawn x0 Q 0 [(0, .ref x0), (1, .long x1), (3, .int x3), (4, .int x4)] [] s := by
  intro h0 h nx HO HM
  refine r_aload_n 0 dX10_drawn_0 rfl rfl ?_
  refine r_iconst (v := (nI 0)) dX10_drawn_1 rfl ?_
  refine r_putf (ci := 11) (kf := 0) (T := TX10) rfl in_X10 tyX10_ok nmX10 (by decide) wF_X10_91 rfl (tyX10_ok 0 (by decide)) dX10_drawn_2 (MAt.o_ HM) (Nat.le_of_ble_eq_true rfl) rfl rfl ?_
  obtain ⟨hu1, eu1, HMu1, HOu1⟩ := mo_o HM HO 0 s.n s.sz s.wn s.at_ s.wr s.ru s.dn s.lm s.st s.fr s.up
  refine Blk.eqs ?_ rfl rfl eu1
  replace HMu1 : MAt hu1 x0 (MV.u_cd s 0) := HMu1
  show Blk g M_X10_drawn (pM x0 h0 nx Q) 5 [(0, .ref x0), (1, .long x1), (3, .int x3), (4, .int x4)] [] hu1 nx 0 0
  refine r_aload_n 0 dX10_drawn_5 rfl rfl ?_
  refine r_iload_n 2 dX10_drawn_6 rfl rfl ?_
  refine r_iload 3 dX10_drawn_7 rfl ?_
  refine r_callV (M2 := M_X10_isPlace) (ci := 11) (n := 2) (As := [.int x3, .int x4]) rfl (wl5 wM_X10_102 wi_X10_isPlace wS_X10_isPlace wI_StateSharesModel wc_X10_isPlace) (by decide +kernel) (by decide) rfl rfl (Nat.le_of_ble_eq_true rfl) dX10_drawn_9 (MAt.o_ HMu1) (by decide) (by decide) (Ct.imp (V _ _ HMu1) (fun r h2 n3 V => ?_))
  obtain ⟨rfl, Oh2, s4, HMh2, V⟩ := V
  have HOh2 := Off.tr HOu1 Oh2
  obtain ⟨v5, rfl, V⟩ := V
  show Blk g M_X10_drawn (pM x0 h0 nx Q) 12 [(0, .ref x0), (1, .long x1), (3, .int x3), (4, .int x4)] [.int (nI v5)] h2 nx 0 0
  obtain ⟨c, V⟩ := V
  refine r_if_neN (tgt := 17) dX10_drawn_12 (by decide) c (fun c => ?_) (fun c => ?_)
  · have V := V.1 c
    refine r_aload_n 0 dX10_drawn_17 rfl rfl ?_
    refine r_callV (M2 := M_X10_countAll) (ci := 11) (n := 0) (As := []) rfl (wl5 wM_X10_194 wi_X10_countAll wS_X10_countAll wI_StateSharesModel wc_X10_countAll) (by decide +kernel) (by decide) rfl rfl (Nat.le_of_ble_eq_true rfl) dX10_drawn_18 (MAt.o_ HMh2) (by decide) (by decide) (Ct.imp (V _ _ HMh2) (fun r h6 n7 V => ?_))
    obtain ⟨rfl, Oh6, s8, HMh6, V⟩ := V
    have HOh6 := Off.tr HOh2 Oh6
    obtain ⟨rfl, V⟩ := V
    show Blk g M_X10_drawn (pM x0 h0 nx Q) 21 [(0, .ref x0), (1, .long x1), (3, .int x3), (4, .int x4)] [] h6 nx 0 0
    refine r_aload_n 0 dX10_drawn_21 rfl rfl ?_
    refine r_iload_n 2 dX10_drawn_22 rfl rfl ?_
    refine r_callV (M2 := M_X10_first) (ci := 11) (n := 1) (As := [.int x3]) rfl (wl5 wM_X10_303 wi_X10_first wS_X10_first wI_StateSharesModel wc_X10_first) (by decide +kernel) (by decide) rfl rfl (Nat.le_of_ble_eq_true rfl) dX10_drawn_23 (MAt.o_ HMh6) (by decide) (by decide) (Ct.imp (V _ _ HMh6) (fun r h9 n10 V => ?_))
    obtain ⟨rfl, Oh9, s11, HMh9, V⟩ := V
    have HOh9 := Off.tr HOh6 Oh9
    obtain ⟨v12, rfl, V⟩ := V
    show Blk g M_X10_drawn (pM x0 h0 nx Q) 26 [(0, .ref x0), (1, .long x1), (3, .int x3), (4, .int x4)] [.int v12] h9 nx 0 0
    refine r_istore (L' := [(5, .int v12), (0, .ref x0), (1, .long x1), (3, .int x3), (4, .int x4)]) dX10_drawn_26 (by decide) rfl ?_
    refine r_iconst (v := (nI 0)) dX10_drawn_28 rfl ?_
    refine r_istore (L' := [(6, .int (nI 0)), (5, .int v12), (0, .ref x0), (1, .long x1), (3, .int x3), (4, .int x4)]) dX10_drawn_29 (by decide) rfl ?_
    obtain ⟨z13, e14, V⟩ := V
    exact Blk.sub (L' := [(0, .ref x0), (1, .long x1), (3, .int x3), (4, .int x4), (5, .int (nI z13)), (6, .int (nI 0))]) [2, 3, 4, 5, 1, 0] (by rw [e14]; rfl) (V _ _ _ HOh9 HMh9)
  · have V := V.2 c
    refine r_iconst (v := (-1)) dX10_drawn_15 rfl ?_
    exact r_iret dX10_drawn_16 rfl (by decide) (by decide) ⟨rfl, HOh2, _, HMh2, V⟩
set_option maxRecDepth 20000 in
theorem v_X10_drawn_31 {g : xG} {Q : mQ} {s : MV} {x0 : Nat} {x1 : Int64} {x3 : Int32} {x4 : Int32} {x5 : Nat} {x6 : Nat} (V : ((x4 ≤ (nI x6) → (Q (some (.int (nI x5))) s)) ∧ (¬ x4 ≤ (nI x6) → (x6 < 2 ^ 31 ∧ (CtM g M_X10_shareAbove [.ref x0, .int (nI x5), .int (nI 0)] x0 s (fun r s3 => ∃ v4 : Nat, r = some (.int (nI v4)) ∧ (v4 < 2 ^ 31 ∧ BlkM g M_X10_drawn x0 Q 100 [(0, .ref x0), (1, .long x1), (3, .int x3), (4, .int x4), (5, .int (nI x5)), (6, .int (nI x6)), (9, .long ((((((((x1 + ((lN 1000003) * (x3.toInt64))) + (lN (7919 * x6))) * (lN 6364136223846793005)) + (lN 1442695040888963407)) * (lN 6364136223846793005)) + (lN 1442695040888963407)).toUInt64 >>> ((nI 33).toInt64.toUInt64 &&& Int64.toUInt64 63)).toInt64)), (11, .int (nI 0)), (12, .long (lN v4))] [] s3))))))) : BlkM g M_X10_drawn x0 Q 31 [(0, .ref x0), (1, .long x1), (3, .int x3), (4, .int x4), (5, .int (nI x5)), (6, .int (nI x6))] [] s := by
  intro h0 h nx HO HM
  refine r_iload 5 dX10_drawn_31 rfl ?_
  refine r_iload 3 dX10_drawn_33 rfl ?_
  refine r_icmp_ge (tgt := 161) dX10_drawn_35 (by decide) (fun c => ?_) (fun c => ?_)
  · have V := V.1 c
    refine r_iload 4 dX10_drawn_161 rfl ?_
    exact r_iret dX10_drawn_163 rfl (by decide) (by decide) ⟨rfl, HO, _, HM, V⟩
  · have V := V.2 c
    refine r_lload_n 1 dX10_drawn_38 rfl rfl ?_
    refine r_ldc2 (v := (lN 1000003)) wL_X10_306 dX10_drawn_39 ?_
    refine r_iload_n 2 dX10_drawn_42 rfl rfl ?_
    refine r_i2l dX10_drawn_43 ?_
    refine r_lmul dX10_drawn_44 ?_
    refine r_ladd dX10_drawn_45 ?_
    refine r_ldc2 (v := (lN 7919)) wL_X10_308 dX10_drawn_46 ?_
    refine r_iload 5 dX10_drawn_49 rfl ?_
    obtain ⟨c, V⟩ := V
    refine r_i2lN dX10_drawn_51 c ?_
    refine r_lmulN dX10_drawn_52 ?_
    refine r_ladd dX10_drawn_53 ?_
    refine r_lstore (L' := [(7, .long ((x1 + ((lN 1000003) * (x3.toInt64))) + (lN (7919 * x6)))), (0, .ref x0), (1, .long x1), (3, .int x3), (4, .int x4), (5, .int (nI x5)), (6, .int (nI x6))]) dX10_drawn_54 (by decide) rfl ?_
    refine r_lload 0 dX10_drawn_56 rfl ?_
    refine r_ldc2 (v := (lN 6364136223846793005)) wL_X10_310 dX10_drawn_58 ?_
    refine r_lmul dX10_drawn_61 ?_
    refine r_ldc2 (v := (lN 1442695040888963407)) wL_X10_312 dX10_drawn_62 ?_
    refine r_ladd dX10_drawn_65 ?_
    refine r_lstore (L' := [(7, .long ((((x1 + ((lN 1000003) * (x3.toInt64))) + (lN (7919 * x6))) * (lN 6364136223846793005)) + (lN 1442695040888963407))), (0, .ref x0), (1, .long x1), (3, .int x3), (4, .int x4), (5, .int (nI x5)), (6, .int (nI x6))]) dX10_drawn_66 (by decide) rfl ?_
    refine r_lload 0 dX10_drawn_68 rfl ?_
    refine r_ldc2 (v := (lN 6364136223846793005)) wL_X10_310 dX10_drawn_70 ?_
    refine r_lmul dX10_drawn_73 ?_
    refine r_ldc2 (v := (lN 1442695040888963407)) wL_X10_312 dX10_drawn_74 ?_
    refine r_ladd dX10_drawn_77 ?_
    refine r_lstore (L' := [(7, .long ((((((x1 + ((lN 1000003) * (x3.toInt64))) + (lN (7919 * x6))) * (lN 6364136223846793005)) + (lN 1442695040888963407)) * (lN 6364136223846793005)) + (lN 1442695040888963407))), (0, .ref x0), (1, .long x1), (3, .int x3), (4, .int x4), (5, .int (nI x5)), (6, .int (nI x6))]) dX10_drawn_78 (by decide) rfl ?_
    refine r_lload 0 dX10_drawn_80 rfl ?_
    refine r_bipush (v := (nI 33)) dX10_drawn_82 rfl ?_
    refine r_lushr dX10_drawn_84 ?_
    refine r_lstore (L' := [(9, .long ((((((((x1 + ((lN 1000003) * (x3.toInt64))) + (lN (7919 * x6))) * (lN 6364136223846793005)) + (lN 1442695040888963407)) * (lN 6364136223846793005)) + (lN 1442695040888963407)).toUInt64 >>> ((nI 33).toInt64.toUInt64 &&& Int64.toUInt64 63)).toInt64)), (7, .long ((((((x1 + ((lN 1000003) * (x3.toInt64))) + (lN (7919 * x6))) * (lN 6364136223846793005)) + (lN 1442695040888963407)) * (lN 6364136223846793005)) + (lN 1442695040888963407))), (0, .ref x0), (1, .long x1), (3, .int x3), (4, .int x4), (5, .int (nI x5)), (6, .int (nI x6))]) dX10_drawn_85 (by decide) rfl ?_
    refine r_iconst (v := (nI 0)) dX10_drawn_87 rfl ?_
    refine r_istore (L' := [(11, .int (nI 0)), (9, .long ((((((((x1 + ((lN 1000003) * (x3.toInt64))) + (lN (7919 * x6))) * (lN 6364136223846793005)) + (lN 1442695040888963407)) * (lN 6364136223846793005)) + (lN 1442695040888963407)).toUInt64 >>> ((nI 33).toInt64.toUInt64 &&& Int64.toUInt64 63)).toInt64)), (7, .long ((((((x1 + ((lN 1000003) * (x3.toInt64))) + (lN (7919 * x6))) * (lN 6364136223846793005)) + (lN 1442695040888963407)) * (lN 6364136223846793005)) + (lN 1442695040888963407))), (0, .ref x0), (1, .long x1), (3, .int x3), (4, .int x4), (5, .int (nI x5)), (6, .int (nI x6))]) dX10_drawn_88 (by decide) rfl ?_
    refine r_aload_n 3 dX10_drawn_90 rfl rfl ?_
    refine r_iload 7 dX10_drawn_91 rfl ?_
    refine r_iconst (v := (nI 0)) dX10_drawn_93 rfl ?_
    refine r_callV (M2 := M_X10_shareAbove) (ci := 11) (n := 2) (As := [.int (nI x5), .int (nI 0)]) rfl (wl5 wM_X10_205 wi_X10_shareAbove wS_X10_shareAbove wI_StateSharesModel wc_X10_shareAbove) (by decide +kernel) (by decide) rfl rfl (Nat.le_of_ble_eq_true rfl) dX10_drawn_94 (MAt.o_ HM) (by decide) (by decide) (Ct.imp (V _ _ HM) (fun r h1 n2 V => ?_))
    obtain ⟨rfl, Oh1, s3, HMh1, V⟩ := V
    have HOh1 := Off.tr HO Oh1
    obtain ⟨v4, rfl, V⟩ := V
    show Blk g M_X10_drawn (pM x0 h0 nx Q) 97 [(11, .int (nI 0)), (9, .long ((((((((x1 + ((lN 1000003) * (x3.toInt64))) + (lN (7919 * x6))) * (lN 6364136223846793005)) + (lN 1442695040888963407)) * (lN 6364136223846793005)) + (lN 1442695040888963407)).toUInt64 >>> ((nI 33).toInt64.toUInt64 &&& Int64.toUInt64 63)).toInt64)), (7, .long ((((((x1 + ((lN 1000003) * (x3.toInt64))) + (lN (7919 * x6))) * (lN 6364136223846793005)) + (lN 1442695040888963407)) * (lN 6364136223846793005)) + (lN 1442695040888963407))), (0, .ref x0), (1, .long x1), (3, .int x3), (4, .int x4), (5, .int (nI x5)), (6, .int (nI x6))] [.int (nI v4)] h1 nx 0 0
    obtain ⟨c, V⟩ := V
    refine r_i2lN dX10_drawn_97 c ?_
    refine r_lstore (L' := [(12, .long (lN v4)), (11, .int (nI 0)), (9, .long ((((((((x1 + ((lN 1000003) * (x3.toInt64))) + (lN (7919 * x6))) * (lN 6364136223846793005)) + (lN 1442695040888963407)) * (lN 6364136223846793005)) + (lN 1442695040888963407)).toUInt64 >>> ((nI 33).toInt64.toUInt64 &&& Int64.toUInt64 63)).toInt64)), (7, .long ((((((x1 + ((lN 1000003) * (x3.toInt64))) + (lN (7919 * x6))) * (lN 6364136223846793005)) + (lN 1442695040888963407)) * (lN 6364136223846793005)) + (lN 1442695040888963407))), (0, .ref x0), (1, .long x1), (3, .int x3), (4, .int x4), (5, .int (nI x5)), (6, .int (nI x6))]) dX10_drawn_98 (by decide) rfl ?_
    exact Blk.sub [4, 5, 6, 7, 8, 9, 2, 1, 0] rfl (V _ _ _ HOh1 HMh1)
set_option maxRecDepth 20000 in
theorem v_X10_drawn_100 {g : xG} {Q : mQ} {s : MV} {x0 : Nat} {x1 : Int64} {x3 : Int32} {x4 : Int32} {x5 : Nat} {x6 : Nat} {x9 : Int64} {x11 : Nat} {x12 : Nat} (V : (1 ≤ s.n ∧ ((x11 < 2 ^ 31 ∧ (s.n - 1) < 2 ^ 31) ∧ (((s.n - 1) ≤ x11 → BlkM g M_X10_drawn x0 Q 31 [(0, .ref x0), (1, .long x1), (3, .int x3), (4, .int x4), (5, .int (nI x11)), (6, .int (nI (x6 + 1)))] [] s) ∧ (x11 < (s.n - 1) → (CtM g M_X10_shareBelow [.ref x0, .int (nI x5)] x0 s (fun r s3 => ∃ v4 : Nat, r = some (.int (nI v4)) ∧ (v4 < 2 ^ 31 ∧ (((x9 * (lN v4)) < (lN (x12 * 2147483648)) → BlkM g M_X10_drawn x0 Q 31 [(0, .ref x0), (1, .long x1), (3, .int x3), (4, .int x4), (5, .int (nI x11)), (6, .int (nI (x6 + 1)))] [] s3) ∧ (¬ (x9 * (lN v4)) < (lN (x12 * 2147483648)) → (CtM g M_X10_shareAbove [.ref x0, .int (nI x5), .int (nI (x11 + 1))] x0 s3 (fun r s7 => ∃ v8 : Nat, r = some (.int (nI v8)) ∧ (v8 < 2 ^ 31 ∧ BlkM g M_X10_drawn x0 Q 100 [(0, .ref x0), (1, .long x1), (3, .int x3), (4, .int x4), (5, .int (nI x5)), (6, .int (nI x6)), (9, .long x9), (11, .int (nI (x11 + 1))), (12, .long (lN (x12 + v8)))] [] s7))))))))))))) : BlkM g M_X10_drawn x0 Q 100 [(0, .ref x0), (1, .long x1), (3, .int x3), (4, .int x4), (5, .int (nI x5)), (6, .int (nI x6)), (9, .long x9), (11, .int (nI x11)), (12, .long (lN x12))] [] s := by
  intro h0 h nx HO HM
  refine r_iload 7 dX10_drawn_100 rfl ?_
  refine r_aload_n 0 dX10_drawn_102 rfl rfl ?_
  refine r_getf (ci := 11) (kf := 1) (T := TX10) rfl in_X10 (by decide) wF_X10_75 dX10_drawn_103 (MAt.o_ HM) rfl ?_
  refine r_iconst (v := (nI 1)) dX10_drawn_106 rfl ?_
  obtain ⟨c, V⟩ := V
  refine r_isubN dX10_drawn_107 c ?_
  obtain ⟨c, V⟩ := V
  refine r_icmp_geN (tgt := 151) dX10_drawn_108 (by decide) c (fun c => ?_) (fun c => ?_)
  · have V := V.1 c
    refine r_iload 7 dX10_drawn_151 rfl ?_
    refine r_istore (L' := [(5, .int (nI x11)), (0, .ref x0), (1, .long x1), (3, .int x3), (4, .int x4), (6, .int (nI x6)), (9, .long x9), (11, .int (nI x11)), (12, .long (lN x12))]) dX10_drawn_153 (by decide) rfl ?_
    refine r_iincN 5 (b := 1) (L' := [(6, .int (nI (x6 + 1))), (5, .int (nI x11)), (0, .ref x0), (1, .long x1), (3, .int x3), (4, .int x4), (9, .long x9), (11, .int (nI x11)), (12, .long (lN x12))]) dX10_drawn_155 rfl rfl (by decide) rfl ?_
    refine r_goto (tgt := 31) dX10_drawn_158 (by decide) ?_
    exact Blk.sub [2, 3, 4, 5, 1, 0] rfl (V _ _ _ HO HM)
  · have V := V.2 c
    refine r_lload 8 dX10_drawn_111 rfl ?_
    refine r_ldc2 (v := (lN 2147483648)) wL_X10_314 dX10_drawn_113 ?_
    refine r_lmulN dX10_drawn_116 ?_
    refine r_lload 6 dX10_drawn_117 rfl ?_
    refine r_aload_n 0 dX10_drawn_119 rfl rfl ?_
    refine r_iload 4 dX10_drawn_120 rfl ?_
    refine r_callV (M2 := M_X10_shareBelow) (ci := 11) (n := 1) (As := [.int (nI x5)]) rfl (wl5 wM_X10_208 wi_X10_shareBelow wS_X10_shareBelow wI_StateSharesModel wc_X10_shareBelow) (by decide +kernel) (by decide) rfl rfl (Nat.le_of_ble_eq_true rfl) dX10_drawn_122 (MAt.o_ HM) (by decide) (by decide) (Ct.imp (V _ _ HM) (fun r h1 n2 V => ?_))
    obtain ⟨rfl, Oh1, s3, HMh1, V⟩ := V
    have HOh1 := Off.tr HO Oh1
    obtain ⟨v4, rfl, V⟩ := V
    show Blk g M_X10_drawn (pM x0 h0 nx Q) 125 [(0, .ref x0), (1, .long x1), (3, .int x3), (4, .int x4), (5, .int (nI x5)), (6, .int (nI x6)), (9, .long x9), (11, .int (nI x11)), (12, .long (lN x12))] [.int (nI v4), .long x9, .long (lN (x12 * 2147483648))] h1 nx 0 0
    obtain ⟨c, V⟩ := V
    refine r_i2lN dX10_drawn_125 c ?_
    refine r_lmul dX10_drawn_126 ?_
    refine r_lcmp dX10_drawn_127 ?_
    refine r_if_gt (tgt := 151) dX10_drawn_128 (by decide) (fun c => ?_) (fun c => ?_)
    · have V := V.1 ((lg_cmp_gt _ _).mp c)
      refine r_iload 7 dX10_drawn_151 rfl ?_
      refine r_istore (L' := [(5, .int (nI x11)), (0, .ref x0), (1, .long x1), (3, .int x3), (4, .int x4), (6, .int (nI x6)), (9, .long x9), (11, .int (nI x11)), (12, .long (lN x12))]) dX10_drawn_153 (by decide) rfl ?_
      refine r_iincN 5 (b := 1) (L' := [(6, .int (nI (x6 + 1))), (5, .int (nI x11)), (0, .ref x0), (1, .long x1), (3, .int x3), (4, .int x4), (9, .long x9), (11, .int (nI x11)), (12, .long (lN x12))]) dX10_drawn_155 rfl rfl (by decide) rfl ?_
      refine r_goto (tgt := 31) dX10_drawn_158 (by decide) ?_
      exact Blk.sub [2, 3, 4, 5, 1, 0] rfl (V _ _ _ HOh1 HMh1)
    · have V := V.2 (fun q => c ((lg_cmp_gt _ _).mpr q))
      refine r_iincN 7 (b := 1) (L' := [(11, .int (nI (x11 + 1))), (0, .ref x0), (1, .long x1), (3, .int x3), (4, .int x4), (5, .int (nI x5)), (6, .int (nI x6)), (9, .long x9), (12, .long (lN x12))]) dX10_drawn_131 rfl rfl (by decide) rfl ?_
      refine r_lload 8 dX10_drawn_134 rfl ?_
      refine r_aload_n 1 dX10_drawn_136 rfl rfl ?_
      refine r_iload 5 dX10_drawn_137 rfl ?_
      refine r_iload 0 dX10_drawn_139 rfl ?_
      refine r_callV (M2 := M_X10_shareAbove) (ci := 11) (n := 2) (As := [.int (nI x5), .int (nI (x11 + 1))]) rfl (wl5 wM_X10_205 wi_X10_shareAbove wS_X10_shareAbove wI_StateSharesModel wc_X10_shareAbove) (by decide +kernel) (by decide) rfl rfl (Nat.le_of_ble_eq_true rfl) dX10_drawn_141 (MAt.o_ HMh1) (by decide) (by decide) (Ct.imp (V _ _ HMh1) (fun r h5 n6 V => ?_))
      obtain ⟨rfl, Oh5, s7, HMh5, V⟩ := V
      have HOh5 := Off.tr HOh1 Oh5
      obtain ⟨v8, rfl, V⟩ := V
      show Blk g M_X10_drawn (pM x0 h0 nx Q) 144 [(11, .int (nI (x11 + 1))), (0, .ref x0), (1, .long x1), (3, .int x3), (4, .int x4), (5, .int (nI x5)), (6, .int (nI x6)), (9, .long x9), (12, .long (lN x12))] [.int (nI v8), .long (lN x12)] h5 nx 0 0
      obtain ⟨c, V⟩ := V
      refine r_i2lN dX10_drawn_144 c ?_
      refine r_laddN dX10_drawn_145 ?_
      refine r_lstore (L' := [(12, .long (lN (x12 + v8))), (11, .int (nI (x11 + 1))), (0, .ref x0), (1, .long x1), (3, .int x3), (4, .int x4), (5, .int (nI x5)), (6, .int (nI x6)), (9, .long x9)]) dX10_drawn_146 (by decide) rfl ?_
      refine r_goto (tgt := 100) dX10_drawn_148 (by decide) ?_
      exact Blk.sub [2, 3, 4, 5, 6, 7, 8, 1, 0] rfl (V _ _ _ HOh5 HMh5)
set_option maxRecDepth 20000 in
theorem v_X10_agree_0 {g : xG} {Q : mQ} {s : MV} {x0 : Nat} {x1 : Int32} {x2 : Int32} {x3 : Int32} (V : (CtP g M_X10_in [.long (x1.toInt64), .long (lN 0), .long (lN 3)] (fun r => ∃ v4 : Nat, r = some (.int (nI v4)) ∧ (v4 < 2 ^ 31 ∧ ((v4 = 0 → (Q (some (.long (-1))) (MV.u_cd s 0))) ∧ (¬ v4 = 0 → (CtP g M_X10_in [.long (x2.toInt64), .long (lN 0), .long (lN 3)] (fun r => ∃ v7 : Nat, r = some (.int (nI v7)) ∧ (v7 < 2 ^ 31 ∧ ((v7 = 0 → (Q (some (.long (-1))) (MV.u_cd s 0))) ∧ (¬ v7 = 0 → ((x1 = x2 → (Q (some (.long (-1))) (MV.u_cd s 0))) ∧ (¬ x1 = x2 → (CtP g M_X10_in [.long (x3.toInt64), .long (lN 0), .long (lN 1)] (fun r => ∃ v10 : Nat, r = some (.int (nI v10)) ∧ (v10 < 2 ^ 31 ∧ ((¬ v10 = 0 → BlkM g M_X10_agree x0 Q 57 [(0, .ref x0), (1, .int x1), (2, .int x2), (3, .int x3), (4, .long (lN 0)), (6, .long (lN 0)), (8, .int (nI 0))] [] (MV.u_cd s 0)) ∧ (v10 = 0 → (Q (some (.long (-1))) (MV.u_cd s 0)))))))))))))))))))) : BlkM g M_X10_agree x0 Q 0 [(0, .ref x0), (1, .int x1), (2, .int x2), (3, .int x3)] [] s := by
  intro h0 h nx HO HM
  refine r_aload_n 0 dX10_agree_0 rfl rfl ?_
  refine r_iconst (v := (nI 0)) dX10_agree_1 rfl ?_
  refine r_putf (ci := 11) (kf := 0) (T := TX10) rfl in_X10 tyX10_ok nmX10 (by decide) wF_X10_91 rfl (tyX10_ok 0 (by decide)) dX10_agree_2 (MAt.o_ HM) (Nat.le_of_ble_eq_true rfl) rfl rfl ?_
  obtain ⟨hu1, eu1, HMu1, HOu1⟩ := mo_o HM HO 0 s.n s.sz s.wn s.at_ s.wr s.ru s.dn s.lm s.st s.fr s.up
  refine Blk.eqs ?_ rfl rfl eu1
  replace HMu1 : MAt hu1 x0 (MV.u_cd s 0) := HMu1
  show Blk g M_X10_agree (pM x0 h0 nx Q) 5 [(0, .ref x0), (1, .int x1), (2, .int x2), (3, .int x3)] [] hu1 nx 0 0
  refine r_iload_n 1 dX10_agree_5 rfl rfl ?_
  refine r_i2l dX10_agree_6 ?_
  refine r_lconst (v := (lN 0)) dX10_agree_7 rfl ?_
  refine r_ldc2 (v := (lN 3)) wL_X10_106 dX10_agree_8 ?_
  refine r_callS (M2 := M_X10_in) (n := 3) (As := [.long (x1.toInt64), .long (lN 0), .long (lN 3)]) (wl4 wM_X10_94 ws_X10_in wI_StateSharesModel wc_X10_in) (by decide +kernel) (by decide) rfl rfl (Nat.le_of_ble_eq_true rfl) dX10_agree_11 (by decide) (by decide) (Ct.imp (V _ _) (fun r h2 n3 V => ?_))
  obtain ⟨rfl, rfl, V⟩ := V
  obtain ⟨v4, rfl, V⟩ := V
  show Blk g M_X10_agree (pM x0 h0 nx Q) 14 [(0, .ref x0), (1, .int x1), (2, .int x2), (3, .int x3)] [.int (nI v4)] hu1 nx 0 0
  obtain ⟨c, V⟩ := V
  refine r_if_eqN (tgt := 44) dX10_agree_14 (by decide) c (fun c => ?_) (fun c => ?_)
  · have V := V.1 c
    refine r_ldc2 (v := (-1)) wL_X10_215 dX10_agree_44 ?_
    exact r_lret dX10_agree_47 rfl (by decide) (by decide) ⟨rfl, HOu1, _, HMu1, V⟩
  · have V := V.2 c
    refine r_iload_n 2 dX10_agree_17 rfl rfl ?_
    refine r_i2l dX10_agree_18 ?_
    refine r_lconst (v := (lN 0)) dX10_agree_19 rfl ?_
    refine r_ldc2 (v := (lN 3)) wL_X10_106 dX10_agree_20 ?_
    refine r_callS (M2 := M_X10_in) (n := 3) (As := [.long (x2.toInt64), .long (lN 0), .long (lN 3)]) (wl4 wM_X10_94 ws_X10_in wI_StateSharesModel wc_X10_in) (by decide +kernel) (by decide) rfl rfl (Nat.le_of_ble_eq_true rfl) dX10_agree_23 (by decide) (by decide) (Ct.imp (V _ _) (fun r h5 n6 V => ?_))
    obtain ⟨rfl, rfl, V⟩ := V
    obtain ⟨v7, rfl, V⟩ := V
    show Blk g M_X10_agree (pM x0 h0 nx Q) 26 [(0, .ref x0), (1, .int x1), (2, .int x2), (3, .int x3)] [.int (nI v7)] hu1 nx 0 0
    obtain ⟨c, V⟩ := V
    refine r_if_eqN (tgt := 44) dX10_agree_26 (by decide) c (fun c => ?_) (fun c => ?_)
    · have V := V.1 c
      refine r_ldc2 (v := (-1)) wL_X10_215 dX10_agree_44 ?_
      exact r_lret dX10_agree_47 rfl (by decide) (by decide) ⟨rfl, HOu1, _, HMu1, V⟩
    · have V := V.2 c
      refine r_iload_n 1 dX10_agree_29 rfl rfl ?_
      refine r_iload_n 2 dX10_agree_30 rfl rfl ?_
      refine r_icmp_eq (tgt := 44) dX10_agree_31 (by decide) (fun c => ?_) (fun c => ?_)
      · have V := V.1 c
        refine r_ldc2 (v := (-1)) wL_X10_215 dX10_agree_44 ?_
        exact r_lret dX10_agree_47 rfl (by decide) (by decide) ⟨rfl, HOu1, _, HMu1, V⟩
      · have V := V.2 c
        refine r_iload_n 3 dX10_agree_34 rfl rfl ?_
        refine r_i2l dX10_agree_35 ?_
        refine r_lconst (v := (lN 0)) dX10_agree_36 rfl ?_
        refine r_lconst (v := (lN 1)) dX10_agree_37 rfl ?_
        refine r_callS (M2 := M_X10_in) (n := 3) (As := [.long (x3.toInt64), .long (lN 0), .long (lN 1)]) (wl4 wM_X10_94 ws_X10_in wI_StateSharesModel wc_X10_in) (by decide +kernel) (by decide) rfl rfl (Nat.le_of_ble_eq_true rfl) dX10_agree_38 (by decide) (by decide) (Ct.imp (V _ _) (fun r h8 n9 V => ?_))
        obtain ⟨rfl, rfl, V⟩ := V
        obtain ⟨v10, rfl, V⟩ := V
        show Blk g M_X10_agree (pM x0 h0 nx Q) 41 [(0, .ref x0), (1, .int x1), (2, .int x2), (3, .int x3)] [.int (nI v10)] hu1 nx 0 0
        obtain ⟨c, V⟩ := V
        refine r_if_neN (tgt := 48) dX10_agree_41 (by decide) c (fun c => ?_) (fun c => ?_)
        · have V := V.1 c
          refine r_lconst (v := (lN 0)) dX10_agree_48 rfl ?_
          refine r_lstore (L' := [(4, .long (lN 0)), (0, .ref x0), (1, .int x1), (2, .int x2), (3, .int x3)]) dX10_agree_49 (by decide) rfl ?_
          refine r_lconst (v := (lN 0)) dX10_agree_51 rfl ?_
          refine r_lstore (L' := [(6, .long (lN 0)), (4, .long (lN 0)), (0, .ref x0), (1, .int x1), (2, .int x2), (3, .int x3)]) dX10_agree_52 (by decide) rfl ?_
          refine r_iconst (v := (nI 0)) dX10_agree_54 rfl ?_
          refine r_istore (L' := [(8, .int (nI 0)), (6, .long (lN 0)), (4, .long (lN 0)), (0, .ref x0), (1, .int x1), (2, .int x2), (3, .int x3)]) dX10_agree_55 (by decide) rfl ?_
          exact Blk.sub [3, 4, 5, 6, 2, 1, 0] rfl (V _ _ _ HOu1 HMu1)
        · have V := V.2 c
          refine r_ldc2 (v := (-1)) wL_X10_215 dX10_agree_44 ?_
          exact r_lret dX10_agree_47 rfl (by decide) (by decide) ⟨rfl, HOu1, _, HMu1, V⟩
set_option maxRecDepth 20000 in
theorem v_X10_agree_57 {g : xG} {Q : mQ} {s : MV} {x0 : Nat} {x1 : Int32} {x2 : Int32} {x3 : Int32} {x4 : Nat} {x6 : Nat} {x8 : Nat} (V : ((x8 < 2 ^ 31 ∧ 120 < 2 ^ 31) ∧ ((120 ≤ x8 → BlkM g M_X10_agree x0 Q 147 [(0, .ref x0), (1, .int x1), (2, .int x2), (3, .int x3), (4, .long (lN x4)), (6, .long (lN x6)), (8, .long (lN 0)), (10, .int (nI 0))] [] s) ∧ (x8 < 120 → (∃ j1 : Nat, ((nI (4 * x8)) + x1) = nI j1 ∧ j1 < 480 ∧ (∃ j3 : Nat, ((nI (4 * x8)) + x2) = nI j3 ∧ j3 < 480 ∧ (((s.mk j1) = (-1) → (((s.mk j1) = (-1) → BlkM g M_X10_agree x0 Q 57 [(0, .ref x0), (1, .int x1), (2, .int x2), (3, .int x3), (4, .long (lN (x4 + 0))), (6, .long (lN (x6 + 0))), (8, .int (nI (x8 + 1)))] [] s) ∧ (¬ (s.mk j1) = (-1) → ((¬ (s.mk j1) = (s.mk j3) → BlkM g M_X10_agree x0 Q 57 [(0, .ref x0), (1, .int x1), (2, .int x2), (3, .int x3), (4, .long (lN (x4 + 0))), (6, .long (lN (x6 + 0))), (8, .int (nI (x8 + 1)))] [] s) ∧ ((s.mk j1) = (s.mk j3) → BlkM g M_X10_agree x0 Q 57 [(0, .ref x0), (1, .int x1), (2, .int x2), (3, .int x3), (4, .long (lN (x4 + 0))), (6, .long (lN (x6 + 1))), (8, .int (nI (x8 + 1)))] [] s))))) ∧ (¬ (s.mk j1) = (-1) → (((s.mk j3) = (-1) → (((s.mk j1) = (-1) → BlkM g M_X10_agree x0 Q 57 [(0, .ref x0), (1, .int x1), (2, .int x2), (3, .int x3), (4, .long (lN (x4 + 0))), (6, .long (lN (x6 + 0))), (8, .int (nI (x8 + 1)))] [] s) ∧ (¬ (s.mk j1) = (-1) → ((¬ (s.mk j1) = (s.mk j3) → BlkM g M_X10_agree x0 Q 57 [(0, .ref x0), (1, .int x1), (2, .int x2), (3, .int x3), (4, .long (lN (x4 + 0))), (6, .long (lN (x6 + 0))), (8, .int (nI (x8 + 1)))] [] s) ∧ ((s.mk j1) = (s.mk j3) → BlkM g M_X10_agree x0 Q 57 [(0, .ref x0), (1, .int x1), (2, .int x2), (3, .int x3), (4, .long (lN (x4 + 0))), (6, .long (lN (x6 + 1))), (8, .int (nI (x8 + 1)))] [] s))))) ∧ (¬ (s.mk j3) = (-1) → (((s.mk j1) = (-1) → BlkM g M_X10_agree x0 Q 57 [(0, .ref x0), (1, .int x1), (2, .int x2), (3, .int x3), (4, .long (lN (x4 + 1))), (6, .long (lN (x6 + 0))), (8, .int (nI (x8 + 1)))] [] s) ∧ (¬ (s.mk j1) = (-1) → ((¬ (s.mk j1) = (s.mk j3) → BlkM g M_X10_agree x0 Q 57 [(0, .ref x0), (1, .int x1), (2, .int x2), (3, .int x3), (4, .long (lN (x4 + 1))), (6, .long (lN (x6 + 0))), (8, .int (nI (x8 + 1)))] [] s) ∧ ((s.mk j1) = (s.mk j3) → BlkM g M_X10_agree x0 Q 57 [(0, .ref x0), (1, .int x1), (2, .int x2), (3, .int x3), (4, .long (lN (x4 + 1))), (6, .long (lN (x6 + 1))), (8, .int (nI (x8 + 1)))] [] s)))))))))))))) : BlkM g M_X10_agree x0 Q 57 [(0, .ref x0), (1, .int x1), (2, .int x2), (3, .int x3), (4, .long (lN x4)), (6, .long (lN x6)), (8, .int (nI x8))] [] s := by
  intro h0 h nx HO HM
  refine r_iload 6 dX10_agree_57 rfl ?_
  refine r_bipush (v := (nI 120)) dX10_agree_59 rfl ?_
  obtain ⟨c, V⟩ := V
  refine r_icmp_geN (tgt := 141) dX10_agree_61 (by decide) c (fun c => ?_) (fun c => ?_)
  · have V := V.1 c
    refine r_lconst (v := (lN 0)) dX10_agree_141 rfl ?_
    refine r_lstore (L' := [(8, .long (lN 0)), (0, .ref x0), (1, .int x1), (2, .int x2), (3, .int x3), (4, .long (lN x4)), (6, .long (lN x6))]) dX10_agree_142 (by decide) rfl ?_
    refine r_iconst (v := (nI 0)) dX10_agree_144 rfl ?_
    refine r_istore (L' := [(10, .int (nI 0)), (8, .long (lN 0)), (0, .ref x0), (1, .int x1), (2, .int x2), (3, .int x3), (4, .long (lN x4)), (6, .long (lN x6))]) dX10_agree_145 (by decide) rfl ?_
    exact Blk.sub [2, 3, 4, 5, 6, 7, 1, 0] rfl (V _ _ _ HO HM)
  · have V := V.2 c
    refine r_aload_n 0 dX10_agree_64 rfl rfl ?_
    refine r_getf (ci := 11) (kf := 2) (T := TX10) rfl in_X10 (by decide) wF_X10_7 dX10_agree_65 (MAt.o_ HM) rfl ?_
    refine r_iconst (v := (nI 4)) dX10_agree_68 rfl ?_
    refine r_iload 6 dX10_agree_69 rfl ?_
    refine r_imulN dX10_agree_71 ?_
    refine r_iload_n 1 dX10_agree_72 rfl rfl ?_
    refine r_iadd dX10_agree_73 ?_
    obtain ⟨j1, e2, V⟩ := V
    obtain ⟨c, V⟩ := V
    refine r_iald dX10_agree_74 (MAt.g_mk HM) e2 c (by decide) ?_
    show Blk g M_X10_agree (pM x0 h0 nx Q) 75 [(0, .ref x0), (1, .int x1), (2, .int x2), (3, .int x3), (4, .long (lN x4)), (6, .long (lN x6)), (8, .int (nI x8))] [.int (s.mk j1)] h nx 0 0
    refine r_istore (L' := [(9, .int (s.mk j1)), (0, .ref x0), (1, .int x1), (2, .int x2), (3, .int x3), (4, .long (lN x4)), (6, .long (lN x6)), (8, .int (nI x8))]) dX10_agree_75 (by decide) rfl ?_
    refine r_aload_n 1 dX10_agree_77 rfl rfl ?_
    refine r_getf (ci := 11) (kf := 2) (T := TX10) rfl in_X10 (by decide) wF_X10_7 dX10_agree_78 (MAt.o_ HM) rfl ?_
    refine r_iconst (v := (nI 4)) dX10_agree_81 rfl ?_
    refine r_iload 7 dX10_agree_82 rfl ?_
    refine r_imulN dX10_agree_84 ?_
    refine r_iload_n 3 dX10_agree_85 rfl rfl ?_
    refine r_iadd dX10_agree_86 ?_
    obtain ⟨j3, e4, V⟩ := V
    obtain ⟨c, V⟩ := V
    refine r_iald dX10_agree_87 (MAt.g_mk HM) e4 c (by decide) ?_
    show Blk g M_X10_agree (pM x0 h0 nx Q) 88 [(9, .int (s.mk j1)), (0, .ref x0), (1, .int x1), (2, .int x2), (3, .int x3), (4, .long (lN x4)), (6, .long (lN x6)), (8, .int (nI x8))] [.int (s.mk j3)] h nx 0 0
    refine r_istore (L' := [(10, .int (s.mk j3)), (9, .int (s.mk j1)), (0, .ref x0), (1, .int x1), (2, .int x2), (3, .int x3), (4, .long (lN x4)), (6, .long (lN x6)), (8, .int (nI x8))]) dX10_agree_88 (by decide) rfl ?_
    refine r_lload 6 dX10_agree_90 rfl ?_
    refine r_iload 1 dX10_agree_92 rfl ?_
    refine r_iconst (v := (-1)) dX10_agree_94 rfl ?_
    refine r_icmp_eq (tgt := 108) dX10_agree_95 (by decide) (fun c => ?_) (fun c => ?_)
    · have V := V.1 c
      refine r_lconst (v := (lN 0)) dX10_agree_108 rfl ?_
      refine r_laddN dX10_agree_109 ?_
      refine r_lstore (L' := [(4, .long (lN (x4 + 0))), (10, .int (s.mk j3)), (9, .int (s.mk j1)), (0, .ref x0), (1, .int x1), (2, .int x2), (3, .int x3), (6, .long (lN x6)), (8, .int (nI x8))]) dX10_agree_110 (by decide) rfl ?_
      refine r_lload 7 dX10_agree_112 rfl ?_
      refine r_iload 2 dX10_agree_114 rfl ?_
      refine r_iconst (v := (-1)) dX10_agree_116 rfl ?_
      refine r_icmp_eq (tgt := 131) dX10_agree_117 (by decide) (fun c => ?_) (fun c => ?_)
      · have V := V.1 c
        refine r_lconst (v := (lN 0)) dX10_agree_131 rfl ?_
        refine r_laddN dX10_agree_132 ?_
        refine r_lstore (L' := [(6, .long (lN (x6 + 0))), (4, .long (lN (x4 + 0))), (10, .int (s.mk j3)), (9, .int (s.mk j1)), (0, .ref x0), (1, .int x1), (2, .int x2), (3, .int x3), (8, .int (nI x8))]) dX10_agree_133 (by decide) rfl ?_
        refine r_iincN 8 (b := 1) (L' := [(8, .int (nI (x8 + 1))), (6, .long (lN (x6 + 0))), (4, .long (lN (x4 + 0))), (10, .int (s.mk j3)), (9, .int (s.mk j1)), (0, .ref x0), (1, .int x1), (2, .int x2), (3, .int x3)]) dX10_agree_135 rfl rfl (by decide) rfl ?_
        refine r_goto (tgt := 57) dX10_agree_138 (by decide) ?_
        exact Blk.sub [5, 6, 7, 8, 2, 1, 0] rfl (V _ _ _ HO HM)
      · have V := V.2 c
        refine r_iload 2 dX10_agree_120 rfl ?_
        refine r_iload 1 dX10_agree_122 rfl ?_
        refine r_icmp_ne (tgt := 131) dX10_agree_124 (by decide) (fun c => ?_) (fun c => ?_)
        · have V := V.1 c
          refine r_lconst (v := (lN 0)) dX10_agree_131 rfl ?_
          refine r_laddN dX10_agree_132 ?_
          refine r_lstore (L' := [(6, .long (lN (x6 + 0))), (4, .long (lN (x4 + 0))), (10, .int (s.mk j3)), (9, .int (s.mk j1)), (0, .ref x0), (1, .int x1), (2, .int x2), (3, .int x3), (8, .int (nI x8))]) dX10_agree_133 (by decide) rfl ?_
          refine r_iincN 8 (b := 1) (L' := [(8, .int (nI (x8 + 1))), (6, .long (lN (x6 + 0))), (4, .long (lN (x4 + 0))), (10, .int (s.mk j3)), (9, .int (s.mk j1)), (0, .ref x0), (1, .int x1), (2, .int x2), (3, .int x3)]) dX10_agree_135 rfl rfl (by decide) rfl ?_
          refine r_goto (tgt := 57) dX10_agree_138 (by decide) ?_
          exact Blk.sub [5, 6, 7, 8, 2, 1, 0] rfl (V _ _ _ HO HM)
        · have V := V.2 c
          refine r_lconst (v := (lN 1)) dX10_agree_127 rfl ?_
          refine r_goto (tgt := 132) dX10_agree_128 (by decide) ?_
          refine r_laddN dX10_agree_132 ?_
          refine r_lstore (L' := [(6, .long (lN (x6 + 1))), (4, .long (lN (x4 + 0))), (10, .int (s.mk j3)), (9, .int (s.mk j1)), (0, .ref x0), (1, .int x1), (2, .int x2), (3, .int x3), (8, .int (nI x8))]) dX10_agree_133 (by decide) rfl ?_
          refine r_iincN 8 (b := 1) (L' := [(8, .int (nI (x8 + 1))), (6, .long (lN (x6 + 1))), (4, .long (lN (x4 + 0))), (10, .int (s.mk j3)), (9, .int (s.mk j1)), (0, .ref x0), (1, .int x1), (2, .int x2), (3, .int x3)]) dX10_agree_135 rfl rfl (by decide) rfl ?_
          refine r_goto (tgt := 57) dX10_agree_138 (by decide) ?_
          exact Blk.sub [5, 6, 7, 8, 2, 1, 0] rfl (V _ _ _ HO HM)
    · have V := V.2 c
      refine r_iload 0 dX10_agree_98 rfl ?_
      refine r_iconst (v := (-1)) dX10_agree_100 rfl ?_
      refine r_icmp_eq (tgt := 108) dX10_agree_101 (by decide) (fun c => ?_) (fun c => ?_)
      · have V := V.1 c
        refine r_lconst (v := (lN 0)) dX10_agree_108 rfl ?_
        refine r_laddN dX10_agree_109 ?_
        refine r_lstore (L' := [(4, .long (lN (x4 + 0))), (10, .int (s.mk j3)), (9, .int (s.mk j1)), (0, .ref x0), (1, .int x1), (2, .int x2), (3, .int x3), (6, .long (lN x6)), (8, .int (nI x8))]) dX10_agree_110 (by decide) rfl ?_
        refine r_lload 7 dX10_agree_112 rfl ?_
        refine r_iload 2 dX10_agree_114 rfl ?_
        refine r_iconst (v := (-1)) dX10_agree_116 rfl ?_
        refine r_icmp_eq (tgt := 131) dX10_agree_117 (by decide) (fun c => ?_) (fun c => ?_)
        · have V := V.1 c
          refine r_lconst (v := (lN 0)) dX10_agree_131 rfl ?_
          refine r_laddN dX10_agree_132 ?_
          refine r_lstore (L' := [(6, .long (lN (x6 + 0))), (4, .long (lN (x4 + 0))), (10, .int (s.mk j3)), (9, .int (s.mk j1)), (0, .ref x0), (1, .int x1), (2, .int x2), (3, .int x3), (8, .int (nI x8))]) dX10_agree_133 (by decide) rfl ?_
          refine r_iincN 8 (b := 1) (L' := [(8, .int (nI (x8 + 1))), (6, .long (lN (x6 + 0))), (4, .long (lN (x4 + 0))), (10, .int (s.mk j3)), (9, .int (s.mk j1)), (0, .ref x0), (1, .int x1), (2, .int x2), (3, .int x3)]) dX10_agree_135 rfl rfl (by decide) rfl ?_
          refine r_goto (tgt := 57) dX10_agree_138 (by decide) ?_
          exact Blk.sub [5, 6, 7, 8, 2, 1, 0] rfl (V _ _ _ HO HM)
        · have V := V.2 c
          refine r_iload 2 dX10_agree_120 rfl ?_
          refine r_iload 1 dX10_agree_122 rfl ?_
          refine r_icmp_ne (tgt := 131) dX10_agree_124 (by decide) (fun c => ?_) (fun c => ?_)
          · have V := V.1 c
            refine r_lconst (v := (lN 0)) dX10_agree_131 rfl ?_
            refine r_laddN dX10_agree_132 ?_
            refine r_lstore (L' := [(6, .long (lN (x6 + 0))), (4, .long (lN (x4 + 0))), (10, .int (s.mk j3)), (9, .int (s.mk j1)), (0, .ref x0), (1, .int x1), (2, .int x2), (3, .int x3), (8, .int (nI x8))]) dX10_agree_133 (by decide) rfl ?_
            refine r_iincN 8 (b := 1) (L' := [(8, .int (nI (x8 + 1))), (6, .long (lN (x6 + 0))), (4, .long (lN (x4 + 0))), (10, .int (s.mk j3)), (9, .int (s.mk j1)), (0, .ref x0), (1, .int x1), (2, .int x2), (3, .int x3)]) dX10_agree_135 rfl rfl (by decide) rfl ?_
            refine r_goto (tgt := 57) dX10_agree_138 (by decide) ?_
            exact Blk.sub [5, 6, 7, 8, 2, 1, 0] rfl (V _ _ _ HO HM)
          · have V := V.2 c
            refine r_lconst (v := (lN 1)) dX10_agree_127 rfl ?_
            refine r_goto (tgt := 132) dX10_agree_128 (by decide) ?_
            refine r_laddN dX10_agree_132 ?_
            refine r_lstore (L' := [(6, .long (lN (x6 + 1))), (4, .long (lN (x4 + 0))), (10, .int (s.mk j3)), (9, .int (s.mk j1)), (0, .ref x0), (1, .int x1), (2, .int x2), (3, .int x3), (8, .int (nI x8))]) dX10_agree_133 (by decide) rfl ?_
            refine r_iincN 8 (b := 1) (L' := [(8, .int (nI (x8 + 1))), (6, .long (lN (x6 + 1))), (4, .long (lN (x4 + 0))), (10, .int (s.mk j3)), (9, .int (s.mk j1)), (0, .ref x0), (1, .int x1), (2, .int x2), (3, .int x3)]) dX10_agree_135 rfl rfl (by decide) rfl ?_
            refine r_goto (tgt := 57) dX10_agree_138 (by decide) ?_
            exact Blk.sub [5, 6, 7, 8, 2, 1, 0] rfl (V _ _ _ HO HM)
      · have V := V.2 c
        refine r_lconst (v := (lN 1)) dX10_agree_104 rfl ?_
        refine r_goto (tgt := 109) dX10_agree_105 (by decide) ?_
        refine r_laddN dX10_agree_109 ?_
        refine r_lstore (L' := [(4, .long (lN (x4 + 1))), (10, .int (s.mk j3)), (9, .int (s.mk j1)), (0, .ref x0), (1, .int x1), (2, .int x2), (3, .int x3), (6, .long (lN x6)), (8, .int (nI x8))]) dX10_agree_110 (by decide) rfl ?_
        refine r_lload 7 dX10_agree_112 rfl ?_
        refine r_iload 2 dX10_agree_114 rfl ?_
        refine r_iconst (v := (-1)) dX10_agree_116 rfl ?_
        refine r_icmp_eq (tgt := 131) dX10_agree_117 (by decide) (fun c => ?_) (fun c => ?_)
        · have V := V.1 c
          refine r_lconst (v := (lN 0)) dX10_agree_131 rfl ?_
          refine r_laddN dX10_agree_132 ?_
          refine r_lstore (L' := [(6, .long (lN (x6 + 0))), (4, .long (lN (x4 + 1))), (10, .int (s.mk j3)), (9, .int (s.mk j1)), (0, .ref x0), (1, .int x1), (2, .int x2), (3, .int x3), (8, .int (nI x8))]) dX10_agree_133 (by decide) rfl ?_
          refine r_iincN 8 (b := 1) (L' := [(8, .int (nI (x8 + 1))), (6, .long (lN (x6 + 0))), (4, .long (lN (x4 + 1))), (10, .int (s.mk j3)), (9, .int (s.mk j1)), (0, .ref x0), (1, .int x1), (2, .int x2), (3, .int x3)]) dX10_agree_135 rfl rfl (by decide) rfl ?_
          refine r_goto (tgt := 57) dX10_agree_138 (by decide) ?_
          exact Blk.sub [5, 6, 7, 8, 2, 1, 0] rfl (V _ _ _ HO HM)
        · have V := V.2 c
          refine r_iload 2 dX10_agree_120 rfl ?_
          refine r_iload 1 dX10_agree_122 rfl ?_
          refine r_icmp_ne (tgt := 131) dX10_agree_124 (by decide) (fun c => ?_) (fun c => ?_)
          · have V := V.1 c
            refine r_lconst (v := (lN 0)) dX10_agree_131 rfl ?_
            refine r_laddN dX10_agree_132 ?_
            refine r_lstore (L' := [(6, .long (lN (x6 + 0))), (4, .long (lN (x4 + 1))), (10, .int (s.mk j3)), (9, .int (s.mk j1)), (0, .ref x0), (1, .int x1), (2, .int x2), (3, .int x3), (8, .int (nI x8))]) dX10_agree_133 (by decide) rfl ?_
            refine r_iincN 8 (b := 1) (L' := [(8, .int (nI (x8 + 1))), (6, .long (lN (x6 + 0))), (4, .long (lN (x4 + 1))), (10, .int (s.mk j3)), (9, .int (s.mk j1)), (0, .ref x0), (1, .int x1), (2, .int x2), (3, .int x3)]) dX10_agree_135 rfl rfl (by decide) rfl ?_
            refine r_goto (tgt := 57) dX10_agree_138 (by decide) ?_
            exact Blk.sub [5, 6, 7, 8, 2, 1, 0] rfl (V _ _ _ HO HM)
          · have V := V.2 c
            refine r_lconst (v := (lN 1)) dX10_agree_127 rfl ?_
            refine r_goto (tgt := 132) dX10_agree_128 (by decide) ?_
            refine r_laddN dX10_agree_132 ?_
            refine r_lstore (L' := [(6, .long (lN (x6 + 1))), (4, .long (lN (x4 + 1))), (10, .int (s.mk j3)), (9, .int (s.mk j1)), (0, .ref x0), (1, .int x1), (2, .int x2), (3, .int x3), (8, .int (nI x8))]) dX10_agree_133 (by decide) rfl ?_
            refine r_iincN 8 (b := 1) (L' := [(8, .int (nI (x8 + 1))), (6, .long (lN (x6 + 1))), (4, .long (lN (x4 + 1))), (10, .int (s.mk j3)), (9, .int (s.mk j1)), (0, .ref x0), (1, .int x1), (2, .int x2), (3, .int x3)]) dX10_agree_135 rfl rfl (by decide) rfl ?_
            refine r_goto (tgt := 57) dX10_agree_138 (by decide) ?_
            exact Blk.sub [5, 6, 7, 8, 2, 1, 0] rfl (V _ _ _ HO HM)
set_option maxRecDepth 20000 in
theorem v_X10_agree_147 {g : xG} {Q : mQ} {s : MV} {x0 : Nat} {x1 : Int32} {x2 : Int32} {x3 : Int32} {x4 : Nat} {x6 : Nat} {x8 : Nat} {x10 : Nat} (V : ((x10 < 2 ^ 31 ∧ s.n < 2 ^ 31) ∧ ((s.n ≤ x10 → (x8 ≤ (x4 * x4) ∧ ((((x4 * x4) - x8) < 2 ^ 63 ∧ 0 < 2 ^ 63) ∧ ((¬ ((x4 * x4) - x8) = 0 → ((¬ x3 = 0 → (CtP g M_X10_divisor [.long ((lN (x4 * x6)) - (lN x8)), .long (lN ((x4 * x4) - x8))] (fun r => ∃ v3 : Nat, r = some (.long (lN v3)) ∧ ((((x4 * x4) - x8) < 2 ^ 63 ∧ 0 < v3 ∧ v3 < 2 ^ 63) ∧ (Q (some (.long (lN (((x4 * x4) - x8) / v3)))) s))))) ∧ (x3 = 0 → (CtP g M_X10_divisor [.long ((lN (x4 * x6)) - (lN x8)), .long (lN ((x4 * x4) - x8))] (fun r => ∃ v6 : Nat, r = some (.long (lN v6)) ∧ (¬ (lN v6) = 0 ∧ (Q (some (.long (((lN (x4 * x6)) - (lN x8)) / (lN v6)))) s))))))) ∧ (((x4 * x4) - x8) = 0 → (Q (some (.long (lN 0))) s)))))) ∧ (x10 < s.n → BlkM g M_X10_agree x0 Q 165 [(0, .ref x0), (1, .int x1), (2, .int x2), (3, .int x3), (4, .long (lN x4)), (6, .long (lN x6)), (8, .long (lN x8)), (10, .int (nI x10)), (11, .long (lN 0)), (13, .long (lN 0)), (15, .int (nI 0))] [] s)))) : BlkM g M_X10_agree x0 Q 147 [(0, .ref x0), (1, .int x1), (2, .int x2), (3, .int x3), (4, .long (lN x4)), (6, .long (lN x6)), (8, .long (lN x8)), (10, .int (nI x10))] [] s := by
  intro h0 h nx HO HM
  refine r_iload 7 dX10_agree_147 rfl ?_
  refine r_aload_n 0 dX10_agree_149 rfl rfl ?_
  refine r_getf (ci := 11) (kf := 1) (T := TX10) rfl in_X10 (by decide) wF_X10_75 dX10_agree_150 (MAt.o_ HM) rfl ?_
  obtain ⟨c, V⟩ := V
  refine r_icmp_geN (tgt := 293) dX10_agree_153 (by decide) c (fun c => ?_) (fun c => ?_)
  · have V := V.1 c
    refine r_lload 4 dX10_agree_293 rfl ?_
    refine r_lload 5 dX10_agree_295 rfl ?_
    refine r_lmulN dX10_agree_297 ?_
    refine r_lload 6 dX10_agree_298 rfl ?_
    refine r_lsub dX10_agree_300 ?_
    refine r_lstore (L' := [(10, .long ((lN (x4 * x6)) - (lN x8))), (0, .ref x0), (1, .int x1), (2, .int x2), (3, .int x3), (4, .long (lN x4)), (6, .long (lN x6)), (8, .long (lN x8))]) dX10_agree_301 (by decide) rfl ?_
    refine r_lload 5 dX10_agree_303 rfl ?_
    refine r_lload 5 dX10_agree_305 rfl ?_
    refine r_lmulN dX10_agree_307 ?_
    refine r_lload 7 dX10_agree_308 rfl ?_
    obtain ⟨c, V⟩ := V
    refine r_lsubN dX10_agree_310 c ?_
    refine r_lstore (L' := [(12, .long (lN ((x4 * x4) - x8))), (10, .long ((lN (x4 * x6)) - (lN x8))), (0, .ref x0), (1, .int x1), (2, .int x2), (3, .int x3), (4, .long (lN x4)), (6, .long (lN x6)), (8, .long (lN x8))]) dX10_agree_311 (by decide) rfl ?_
    refine r_lload 0 dX10_agree_313 rfl ?_
    refine r_lconst (v := (lN 0)) dX10_agree_315 rfl ?_
    obtain ⟨c, V⟩ := V
    refine r_lif_ne (tgt := 322) dX10_agree_316 dX10_agree_317 (by decide) c (fun c => ?_) (fun c => ?_)
    · have V := V.1 c
      refine r_iload_n 5 dX10_agree_322 rfl rfl ?_
      refine r_if_ne (tgt := 331) dX10_agree_323 (by decide) (fun c => ?_) (fun c => ?_)
      · have V := V.1 c
        refine r_lload 0 dX10_agree_331 rfl ?_
        refine r_lload 1 dX10_agree_333 rfl ?_
        refine r_lload 0 dX10_agree_335 rfl ?_
        refine r_callS (M2 := M_X10_divisor) (n := 2) (As := [.long ((lN (x4 * x6)) - (lN x8)), .long (lN ((x4 * x4) - x8))]) (wl4 wM_X10_211 ws_X10_divisor wI_StateSharesModel wc_X10_divisor) (by decide +kernel) (by decide) rfl rfl (Nat.le_of_ble_eq_true rfl) dX10_agree_337 (by decide) (by decide) (Ct.imp (V _ _) (fun r h1 n2 V => ?_))
        obtain ⟨rfl, rfl, V⟩ := V
        obtain ⟨v3, rfl, V⟩ := V
        show Blk g M_X10_agree (pM x0 h0 nx Q) 340 [(12, .long (lN ((x4 * x4) - x8))), (10, .long ((lN (x4 * x6)) - (lN x8))), (0, .ref x0), (1, .int x1), (2, .int x2), (3, .int x3), (4, .long (lN x4)), (6, .long (lN x6)), (8, .long (lN x8))] [.long (lN v3), .long (lN ((x4 * x4) - x8))] h nx 0 0
        obtain ⟨c, V⟩ := V
        refine r_ldivN dX10_agree_340 c ?_
        exact r_lret dX10_agree_341 rfl (by decide) (by decide) ⟨rfl, HO, _, HM, V⟩
      · have V := V.2 c
        refine r_lload 1 dX10_agree_326 rfl ?_
        refine r_goto (tgt := 333) dX10_agree_328 (by decide) ?_
        refine r_lload 1 dX10_agree_333 rfl ?_
        refine r_lload 0 dX10_agree_335 rfl ?_
        refine r_callS (M2 := M_X10_divisor) (n := 2) (As := [.long ((lN (x4 * x6)) - (lN x8)), .long (lN ((x4 * x4) - x8))]) (wl4 wM_X10_211 ws_X10_divisor wI_StateSharesModel wc_X10_divisor) (by decide +kernel) (by decide) rfl rfl (Nat.le_of_ble_eq_true rfl) dX10_agree_337 (by decide) (by decide) (Ct.imp (V _ _) (fun r h4 n5 V => ?_))
        obtain ⟨rfl, rfl, V⟩ := V
        obtain ⟨v6, rfl, V⟩ := V
        show Blk g M_X10_agree (pM x0 h0 nx Q) 340 [(12, .long (lN ((x4 * x4) - x8))), (10, .long ((lN (x4 * x6)) - (lN x8))), (0, .ref x0), (1, .int x1), (2, .int x2), (3, .int x3), (4, .long (lN x4)), (6, .long (lN x6)), (8, .long (lN x8))] [.long (lN v6), .long ((lN (x4 * x6)) - (lN x8))] h nx 0 0
        obtain ⟨c, V⟩ := V
        refine r_ldiv dX10_agree_340 c ?_
        exact r_lret dX10_agree_341 rfl (by decide) (by decide) ⟨rfl, HO, _, HM, V⟩
    · have V := V.2 c
      refine r_lconst (v := (lN 0)) dX10_agree_320 rfl ?_
      exact r_lret dX10_agree_321 rfl (by decide) (by decide) ⟨rfl, HO, _, HM, V⟩
  · have V := V.2 c
    refine r_lconst (v := (lN 0)) dX10_agree_156 rfl ?_
    refine r_lstore (L' := [(11, .long (lN 0)), (0, .ref x0), (1, .int x1), (2, .int x2), (3, .int x3), (4, .long (lN x4)), (6, .long (lN x6)), (8, .long (lN x8)), (10, .int (nI x10))]) dX10_agree_157 (by decide) rfl ?_
    refine r_lconst (v := (lN 0)) dX10_agree_159 rfl ?_
    refine r_lstore (L' := [(13, .long (lN 0)), (11, .long (lN 0)), (0, .ref x0), (1, .int x1), (2, .int x2), (3, .int x3), (4, .long (lN x4)), (6, .long (lN x6)), (8, .long (lN x8)), (10, .int (nI x10))]) dX10_agree_160 (by decide) rfl ?_
    refine r_iconst (v := (nI 0)) dX10_agree_162 rfl ?_
    refine r_istore (L' := [(15, .int (nI 0)), (13, .long (lN 0)), (11, .long (lN 0)), (0, .ref x0), (1, .int x1), (2, .int x2), (3, .int x3), (4, .long (lN x4)), (6, .long (lN x6)), (8, .long (lN x8)), (10, .int (nI x10))]) dX10_agree_163 (by decide) rfl ?_
    exact Blk.sub [3, 4, 5, 6, 7, 8, 9, 10, 2, 1, 0] rfl (V _ _ _ HO HM)
set_option maxRecDepth 20000 in
theorem v_X10_agree_165 {g : xG} {Q : mQ} {s : MV} {x0 : Nat} {x1 : Int32} {x2 : Int32} {x3 : Int32} {x4 : Nat} {x6 : Nat} {x8 : Nat} {x10 : Nat} {x11 : Nat} {x13 : Nat} {x15 : Nat} (V : ((x15 < 2 ^ 31 ∧ 120 < 2 ^ 31) ∧ ((120 ≤ x15 → BlkM g M_X10_agree x0 Q 147 [(0, .ref x0), (1, .int x1), (2, .int x2), (3, .int x3), (4, .long (lN x4)), (6, .long (lN x6)), (8, .long (lN (x8 + (x11 * x13)))), (10, .int (nI (x10 + 1)))] [] s) ∧ (x15 < 120 → (∃ j1 : Nat, ((nI (4 * x15)) + x1) = nI j1 ∧ j1 < 480 ∧ (((s.mk j1) = (-1) → BlkM g M_X10_agree x0 Q 165 [(0, .ref x0), (1, .int x1), (2, .int x2), (3, .int x3), (4, .long (lN x4)), (6, .long (lN x6)), (8, .long (lN x8)), (10, .int (nI x10)), (11, .long (lN (x11 + 0))), (13, .long (lN (x13 + 0))), (15, .int (nI (x15 + 1)))] [] s) ∧ (¬ (s.mk j1) = (-1) → (∃ j3 : Nat, ((nI (4 * x15)) + x2) = nI j3 ∧ j3 < 480 ∧ (((s.mk j3) = (-1) → BlkM g M_X10_agree x0 Q 165 [(0, .ref x0), (1, .int x1), (2, .int x2), (3, .int x3), (4, .long (lN x4)), (6, .long (lN x6)), (8, .long (lN x8)), (10, .int (nI x10)), (11, .long (lN (x11 + 0))), (13, .long (lN (x13 + 0))), (15, .int (nI (x15 + 1)))] [] s) ∧ (¬ (s.mk j3) = (-1) → (∃ j5 : Nat, ((nI (4 * x15)) + x1) = nI j5 ∧ j5 < 480 ∧ ((¬ (s.mk j5) = (nI x10) → (∃ j7 : Nat, ((nI (4 * x15)) + x2) = nI j7 ∧ j7 < 480 ∧ ((¬ (s.mk j7) = (nI x10) → BlkM g M_X10_agree x0 Q 165 [(0, .ref x0), (1, .int x1), (2, .int x2), (3, .int x3), (4, .long (lN x4)), (6, .long (lN x6)), (8, .long (lN x8)), (10, .int (nI x10)), (11, .long (lN (x11 + 0))), (13, .long (lN (x13 + 0))), (15, .int (nI (x15 + 1)))] [] s) ∧ ((s.mk j7) = (nI x10) → BlkM g M_X10_agree x0 Q 165 [(0, .ref x0), (1, .int x1), (2, .int x2), (3, .int x3), (4, .long (lN x4)), (6, .long (lN x6)), (8, .long (lN x8)), (10, .int (nI x10)), (11, .long (lN (x11 + 0))), (13, .long (lN (x13 + 1))), (15, .int (nI (x15 + 1)))] [] s)))) ∧ ((s.mk j5) = (nI x10) → (∃ j9 : Nat, ((nI (4 * x15)) + x2) = nI j9 ∧ j9 < 480 ∧ ((¬ (s.mk j9) = (nI x10) → BlkM g M_X10_agree x0 Q 165 [(0, .ref x0), (1, .int x1), (2, .int x2), (3, .int x3), (4, .long (lN x4)), (6, .long (lN x6)), (8, .long (lN x8)), (10, .int (nI x10)), (11, .long (lN (x11 + 1))), (13, .long (lN (x13 + 0))), (15, .int (nI (x15 + 1)))] [] s) ∧ ((s.mk j9) = (nI x10) → BlkM g M_X10_agree x0 Q 165 [(0, .ref x0), (1, .int x1), (2, .int x2), (3, .int x3), (4, .long (lN x4)), (6, .long (lN x6)), (8, .long (lN x8)), (10, .int (nI x10)), (11, .long (lN (x11 + 1))), (13, .long (lN (x13 + 1))), (15, .int (nI (x15 + 1)))] [] s)))))))))))))))) : BlkM g M_X10_agree x0 Q 165 [(0, .ref x0), (1, .int x1), (2, .int x2), (3, .int x3), (4, .long (lN x4)), (6, .long (lN x6)), (8, .long (lN x8)), (10, .int (nI x10)), (11, .long (lN x11)), (13, .long (lN x13)), (15, .int (nI x15))] [] s := by
  intro h0 h nx HO HM
  refine r_iload 10 dX10_agree_165 rfl ?_
  refine r_bipush (v := (nI 120)) dX10_agree_167 rfl ?_
  obtain ⟨c, V⟩ := V
  refine r_icmp_geN (tgt := 277) dX10_agree_169 (by decide) c (fun c => ?_) (fun c => ?_)
  · have V := V.1 c
    refine r_lload 6 dX10_agree_277 rfl ?_
    refine r_lload 8 dX10_agree_279 rfl ?_
    refine r_lload 9 dX10_agree_281 rfl ?_
    refine r_lmulN dX10_agree_283 ?_
    refine r_laddN dX10_agree_284 ?_
    refine r_lstore (L' := [(8, .long (lN (x8 + (x11 * x13)))), (0, .ref x0), (1, .int x1), (2, .int x2), (3, .int x3), (4, .long (lN x4)), (6, .long (lN x6)), (10, .int (nI x10)), (11, .long (lN x11)), (13, .long (lN x13)), (15, .int (nI x15))]) dX10_agree_285 (by decide) rfl ?_
    refine r_iincN 7 (b := 1) (L' := [(10, .int (nI (x10 + 1))), (8, .long (lN (x8 + (x11 * x13)))), (0, .ref x0), (1, .int x1), (2, .int x2), (3, .int x3), (4, .long (lN x4)), (6, .long (lN x6)), (11, .long (lN x11)), (13, .long (lN x13)), (15, .int (nI x15))]) dX10_agree_287 rfl rfl (by decide) rfl ?_
    refine r_goto (tgt := 147) dX10_agree_290 (by decide) ?_
    exact Blk.sub [2, 3, 4, 5, 6, 7, 1, 0] rfl (V _ _ _ HO HM)
  · have V := V.2 c
    refine r_aload_n 0 dX10_agree_172 rfl rfl ?_
    refine r_getf (ci := 11) (kf := 2) (T := TX10) rfl in_X10 (by decide) wF_X10_7 dX10_agree_173 (MAt.o_ HM) rfl ?_
    refine r_iconst (v := (nI 4)) dX10_agree_176 rfl ?_
    refine r_iload 10 dX10_agree_177 rfl ?_
    refine r_imulN dX10_agree_179 ?_
    refine r_iload_n 1 dX10_agree_180 rfl rfl ?_
    refine r_iadd dX10_agree_181 ?_
    obtain ⟨j1, e2, V⟩ := V
    obtain ⟨c, V⟩ := V
    refine r_iald dX10_agree_182 (MAt.g_mk HM) e2 c (by decide) ?_
    show Blk g M_X10_agree (pM x0 h0 nx Q) 183 [(0, .ref x0), (1, .int x1), (2, .int x2), (3, .int x3), (4, .long (lN x4)), (6, .long (lN x6)), (8, .long (lN x8)), (10, .int (nI x10)), (11, .long (lN x11)), (13, .long (lN x13)), (15, .int (nI x15))] [.int (s.mk j1)] h nx 0 0
    refine r_iconst (v := (-1)) dX10_agree_183 rfl ?_
    refine r_icmp_eq (tgt := 206) dX10_agree_184 (by decide) (fun c => ?_) (fun c => ?_)
    · have V := V.1 c
      refine r_iconst (v := (nI 0)) dX10_agree_206 rfl ?_
      refine r_istore (L' := [(16, .int (nI 0)), (0, .ref x0), (1, .int x1), (2, .int x2), (3, .int x3), (4, .long (lN x4)), (6, .long (lN x6)), (8, .long (lN x8)), (10, .int (nI x10)), (11, .long (lN x11)), (13, .long (lN x13)), (15, .int (nI x15))]) dX10_agree_207 (by decide) rfl ?_
      refine r_lload 9 dX10_agree_209 rfl ?_
      refine r_iload 0 dX10_agree_211 rfl ?_
      refine r_if_eqN (tgt := 236) dX10_agree_213 (by decide) (by decide) (fun _ => ?_) (fun c => absurd c (by decide))
      refine r_lconst (v := (lN 0)) dX10_agree_236 rfl ?_
      refine r_laddN dX10_agree_237 ?_
      refine r_lstore (L' := [(11, .long (lN (x11 + 0))), (16, .int (nI 0)), (0, .ref x0), (1, .int x1), (2, .int x2), (3, .int x3), (4, .long (lN x4)), (6, .long (lN x6)), (8, .long (lN x8)), (10, .int (nI x10)), (13, .long (lN x13)), (15, .int (nI x15))]) dX10_agree_238 (by decide) rfl ?_
      refine r_lload 10 dX10_agree_240 rfl ?_
      refine r_iload 1 dX10_agree_242 rfl ?_
      refine r_if_eqN (tgt := 267) dX10_agree_244 (by decide) (by decide) (fun _ => ?_) (fun c => absurd c (by decide))
      refine r_lconst (v := (lN 0)) dX10_agree_267 rfl ?_
      refine r_laddN dX10_agree_268 ?_
      refine r_lstore (L' := [(13, .long (lN (x13 + 0))), (11, .long (lN (x11 + 0))), (16, .int (nI 0)), (0, .ref x0), (1, .int x1), (2, .int x2), (3, .int x3), (4, .long (lN x4)), (6, .long (lN x6)), (8, .long (lN x8)), (10, .int (nI x10)), (15, .int (nI x15))]) dX10_agree_269 (by decide) rfl ?_
      refine r_iincN 11 (b := 1) (L' := [(15, .int (nI (x15 + 1))), (13, .long (lN (x13 + 0))), (11, .long (lN (x11 + 0))), (16, .int (nI 0)), (0, .ref x0), (1, .int x1), (2, .int x2), (3, .int x3), (4, .long (lN x4)), (6, .long (lN x6)), (8, .long (lN x8)), (10, .int (nI x10))]) dX10_agree_271 rfl rfl (by decide) rfl ?_
      refine r_goto (tgt := 165) dX10_agree_274 (by decide) ?_
      exact Blk.sub [4, 5, 6, 7, 8, 9, 10, 11, 2, 1, 0] rfl (V _ _ _ HO HM)
    · have V := V.2 c
      refine r_aload_n 0 dX10_agree_187 rfl rfl ?_
      refine r_getf (ci := 11) (kf := 2) (T := TX10) rfl in_X10 (by decide) wF_X10_7 dX10_agree_188 (MAt.o_ HM) rfl ?_
      refine r_iconst (v := (nI 4)) dX10_agree_191 rfl ?_
      refine r_iload 10 dX10_agree_192 rfl ?_
      refine r_imulN dX10_agree_194 ?_
      refine r_iload_n 2 dX10_agree_195 rfl rfl ?_
      refine r_iadd dX10_agree_196 ?_
      obtain ⟨j3, e4, V⟩ := V
      obtain ⟨c, V⟩ := V
      refine r_iald dX10_agree_197 (MAt.g_mk HM) e4 c (by decide) ?_
      show Blk g M_X10_agree (pM x0 h0 nx Q) 198 [(0, .ref x0), (1, .int x1), (2, .int x2), (3, .int x3), (4, .long (lN x4)), (6, .long (lN x6)), (8, .long (lN x8)), (10, .int (nI x10)), (11, .long (lN x11)), (13, .long (lN x13)), (15, .int (nI x15))] [.int (s.mk j3)] h nx 0 0
      refine r_iconst (v := (-1)) dX10_agree_198 rfl ?_
      refine r_icmp_eq (tgt := 206) dX10_agree_199 (by decide) (fun c => ?_) (fun c => ?_)
      · have V := V.1 c
        refine r_iconst (v := (nI 0)) dX10_agree_206 rfl ?_
        refine r_istore (L' := [(16, .int (nI 0)), (0, .ref x0), (1, .int x1), (2, .int x2), (3, .int x3), (4, .long (lN x4)), (6, .long (lN x6)), (8, .long (lN x8)), (10, .int (nI x10)), (11, .long (lN x11)), (13, .long (lN x13)), (15, .int (nI x15))]) dX10_agree_207 (by decide) rfl ?_
        refine r_lload 9 dX10_agree_209 rfl ?_
        refine r_iload 0 dX10_agree_211 rfl ?_
        refine r_if_eqN (tgt := 236) dX10_agree_213 (by decide) (by decide) (fun _ => ?_) (fun c => absurd c (by decide))
        refine r_lconst (v := (lN 0)) dX10_agree_236 rfl ?_
        refine r_laddN dX10_agree_237 ?_
        refine r_lstore (L' := [(11, .long (lN (x11 + 0))), (16, .int (nI 0)), (0, .ref x0), (1, .int x1), (2, .int x2), (3, .int x3), (4, .long (lN x4)), (6, .long (lN x6)), (8, .long (lN x8)), (10, .int (nI x10)), (13, .long (lN x13)), (15, .int (nI x15))]) dX10_agree_238 (by decide) rfl ?_
        refine r_lload 10 dX10_agree_240 rfl ?_
        refine r_iload 1 dX10_agree_242 rfl ?_
        refine r_if_eqN (tgt := 267) dX10_agree_244 (by decide) (by decide) (fun _ => ?_) (fun c => absurd c (by decide))
        refine r_lconst (v := (lN 0)) dX10_agree_267 rfl ?_
        refine r_laddN dX10_agree_268 ?_
        refine r_lstore (L' := [(13, .long (lN (x13 + 0))), (11, .long (lN (x11 + 0))), (16, .int (nI 0)), (0, .ref x0), (1, .int x1), (2, .int x2), (3, .int x3), (4, .long (lN x4)), (6, .long (lN x6)), (8, .long (lN x8)), (10, .int (nI x10)), (15, .int (nI x15))]) dX10_agree_269 (by decide) rfl ?_
        refine r_iincN 11 (b := 1) (L' := [(15, .int (nI (x15 + 1))), (13, .long (lN (x13 + 0))), (11, .long (lN (x11 + 0))), (16, .int (nI 0)), (0, .ref x0), (1, .int x1), (2, .int x2), (3, .int x3), (4, .long (lN x4)), (6, .long (lN x6)), (8, .long (lN x8)), (10, .int (nI x10))]) dX10_agree_271 rfl rfl (by decide) rfl ?_
        refine r_goto (tgt := 165) dX10_agree_274 (by decide) ?_
        exact Blk.sub [4, 5, 6, 7, 8, 9, 10, 11, 2, 1, 0] rfl (V _ _ _ HO HM)
      · have V := V.2 c
        refine r_iconst (v := (nI 1)) dX10_agree_202 rfl ?_
        refine r_goto (tgt := 207) dX10_agree_203 (by decide) ?_
        refine r_istore (L' := [(16, .int (nI 1)), (0, .ref x0), (1, .int x1), (2, .int x2), (3, .int x3), (4, .long (lN x4)), (6, .long (lN x6)), (8, .long (lN x8)), (10, .int (nI x10)), (11, .long (lN x11)), (13, .long (lN x13)), (15, .int (nI x15))]) dX10_agree_207 (by decide) rfl ?_
        refine r_lload 9 dX10_agree_209 rfl ?_
        refine r_iload 0 dX10_agree_211 rfl ?_
        refine r_if_eqN (tgt := 236) dX10_agree_213 (by decide) (by decide) (fun c => absurd c (by decide)) (fun _ => ?_)
        refine r_aload_n 1 dX10_agree_216 rfl rfl ?_
        refine r_getf (ci := 11) (kf := 2) (T := TX10) rfl in_X10 (by decide) wF_X10_7 dX10_agree_217 (MAt.o_ HM) rfl ?_
        refine r_iconst (v := (nI 4)) dX10_agree_220 rfl ?_
        refine r_iload 11 dX10_agree_221 rfl ?_
        refine r_imulN dX10_agree_223 ?_
        refine r_iload_n 2 dX10_agree_224 rfl rfl ?_
        refine r_iadd dX10_agree_225 ?_
        obtain ⟨j5, e6, V⟩ := V
        obtain ⟨c, V⟩ := V
        refine r_iald dX10_agree_226 (MAt.g_mk HM) e6 c (by decide) ?_
        show Blk g M_X10_agree (pM x0 h0 nx Q) 227 [(16, .int (nI 1)), (0, .ref x0), (1, .int x1), (2, .int x2), (3, .int x3), (4, .long (lN x4)), (6, .long (lN x6)), (8, .long (lN x8)), (10, .int (nI x10)), (11, .long (lN x11)), (13, .long (lN x13)), (15, .int (nI x15))] [.int (s.mk j5), .long (lN x11)] h nx 0 0
        refine r_iload 8 dX10_agree_227 rfl ?_
        refine r_icmp_ne (tgt := 236) dX10_agree_229 (by decide) (fun c => ?_) (fun c => ?_)
        · have V := V.1 c
          refine r_lconst (v := (lN 0)) dX10_agree_236 rfl ?_
          refine r_laddN dX10_agree_237 ?_
          refine r_lstore (L' := [(11, .long (lN (x11 + 0))), (16, .int (nI 1)), (0, .ref x0), (1, .int x1), (2, .int x2), (3, .int x3), (4, .long (lN x4)), (6, .long (lN x6)), (8, .long (lN x8)), (10, .int (nI x10)), (13, .long (lN x13)), (15, .int (nI x15))]) dX10_agree_238 (by decide) rfl ?_
          refine r_lload 10 dX10_agree_240 rfl ?_
          refine r_iload 1 dX10_agree_242 rfl ?_
          refine r_if_eqN (tgt := 267) dX10_agree_244 (by decide) (by decide) (fun c => absurd c (by decide)) (fun _ => ?_)
          refine r_aload_n 2 dX10_agree_247 rfl rfl ?_
          refine r_getf (ci := 11) (kf := 2) (T := TX10) rfl in_X10 (by decide) wF_X10_7 dX10_agree_248 (MAt.o_ HM) rfl ?_
          refine r_iconst (v := (nI 4)) dX10_agree_251 rfl ?_
          refine r_iload 11 dX10_agree_252 rfl ?_
          refine r_imulN dX10_agree_254 ?_
          refine r_iload_n 4 dX10_agree_255 rfl rfl ?_
          refine r_iadd dX10_agree_256 ?_
          obtain ⟨j7, e8, V⟩ := V
          obtain ⟨c, V⟩ := V
          refine r_iald dX10_agree_257 (MAt.g_mk HM) e8 c (by decide) ?_
          show Blk g M_X10_agree (pM x0 h0 nx Q) 258 [(11, .long (lN (x11 + 0))), (16, .int (nI 1)), (0, .ref x0), (1, .int x1), (2, .int x2), (3, .int x3), (4, .long (lN x4)), (6, .long (lN x6)), (8, .long (lN x8)), (10, .int (nI x10)), (13, .long (lN x13)), (15, .int (nI x15))] [.int (s.mk j7), .long (lN x13)] h nx 0 0
          refine r_iload 9 dX10_agree_258 rfl ?_
          refine r_icmp_ne (tgt := 267) dX10_agree_260 (by decide) (fun c => ?_) (fun c => ?_)
          · have V := V.1 c
            refine r_lconst (v := (lN 0)) dX10_agree_267 rfl ?_
            refine r_laddN dX10_agree_268 ?_
            refine r_lstore (L' := [(13, .long (lN (x13 + 0))), (11, .long (lN (x11 + 0))), (16, .int (nI 1)), (0, .ref x0), (1, .int x1), (2, .int x2), (3, .int x3), (4, .long (lN x4)), (6, .long (lN x6)), (8, .long (lN x8)), (10, .int (nI x10)), (15, .int (nI x15))]) dX10_agree_269 (by decide) rfl ?_
            refine r_iincN 11 (b := 1) (L' := [(15, .int (nI (x15 + 1))), (13, .long (lN (x13 + 0))), (11, .long (lN (x11 + 0))), (16, .int (nI 1)), (0, .ref x0), (1, .int x1), (2, .int x2), (3, .int x3), (4, .long (lN x4)), (6, .long (lN x6)), (8, .long (lN x8)), (10, .int (nI x10))]) dX10_agree_271 rfl rfl (by decide) rfl ?_
            refine r_goto (tgt := 165) dX10_agree_274 (by decide) ?_
            exact Blk.sub [4, 5, 6, 7, 8, 9, 10, 11, 2, 1, 0] rfl (V _ _ _ HO HM)
          · have V := V.2 c
            refine r_lconst (v := (lN 1)) dX10_agree_263 rfl ?_
            refine r_goto (tgt := 268) dX10_agree_264 (by decide) ?_
            refine r_laddN dX10_agree_268 ?_
            refine r_lstore (L' := [(13, .long (lN (x13 + 1))), (11, .long (lN (x11 + 0))), (16, .int (nI 1)), (0, .ref x0), (1, .int x1), (2, .int x2), (3, .int x3), (4, .long (lN x4)), (6, .long (lN x6)), (8, .long (lN x8)), (10, .int (nI x10)), (15, .int (nI x15))]) dX10_agree_269 (by decide) rfl ?_
            refine r_iincN 11 (b := 1) (L' := [(15, .int (nI (x15 + 1))), (13, .long (lN (x13 + 1))), (11, .long (lN (x11 + 0))), (16, .int (nI 1)), (0, .ref x0), (1, .int x1), (2, .int x2), (3, .int x3), (4, .long (lN x4)), (6, .long (lN x6)), (8, .long (lN x8)), (10, .int (nI x10))]) dX10_agree_271 rfl rfl (by decide) rfl ?_
            refine r_goto (tgt := 165) dX10_agree_274 (by decide) ?_
            exact Blk.sub [4, 5, 6, 7, 8, 9, 10, 11, 2, 1, 0] rfl (V _ _ _ HO HM)
        · have V := V.2 c
          refine r_lconst (v := (lN 1)) dX10_agree_232 rfl ?_
          refine r_goto (tgt := 237) dX10_agree_233 (by decide) ?_
          refine r_laddN dX10_agree_237 ?_
          refine r_lstore (L' := [(11, .long (lN (x11 + 1))), (16, .int (nI 1)), (0, .ref x0), (1, .int x1), (2, .int x2), (3, .int x3), (4, .long (lN x4)), (6, .long (lN x6)), (8, .long (lN x8)), (10, .int (nI x10)), (13, .long (lN x13)), (15, .int (nI x15))]) dX10_agree_238 (by decide) rfl ?_
          refine r_lload 10 dX10_agree_240 rfl ?_
          refine r_iload 1 dX10_agree_242 rfl ?_
          refine r_if_eqN (tgt := 267) dX10_agree_244 (by decide) (by decide) (fun c => absurd c (by decide)) (fun _ => ?_)
          refine r_aload_n 2 dX10_agree_247 rfl rfl ?_
          refine r_getf (ci := 11) (kf := 2) (T := TX10) rfl in_X10 (by decide) wF_X10_7 dX10_agree_248 (MAt.o_ HM) rfl ?_
          refine r_iconst (v := (nI 4)) dX10_agree_251 rfl ?_
          refine r_iload 11 dX10_agree_252 rfl ?_
          refine r_imulN dX10_agree_254 ?_
          refine r_iload_n 4 dX10_agree_255 rfl rfl ?_
          refine r_iadd dX10_agree_256 ?_
          obtain ⟨j9, e10, V⟩ := V
          obtain ⟨c, V⟩ := V
          refine r_iald dX10_agree_257 (MAt.g_mk HM) e10 c (by decide) ?_
          show Blk g M_X10_agree (pM x0 h0 nx Q) 258 [(11, .long (lN (x11 + 1))), (16, .int (nI 1)), (0, .ref x0), (1, .int x1), (2, .int x2), (3, .int x3), (4, .long (lN x4)), (6, .long (lN x6)), (8, .long (lN x8)), (10, .int (nI x10)), (13, .long (lN x13)), (15, .int (nI x15))] [.int (s.mk j9), .long (lN x13)] h nx 0 0
          refine r_iload 9 dX10_agree_258 rfl ?_
          refine r_icmp_ne (tgt := 267) dX10_agree_260 (by decide) (fun c => ?_) (fun c => ?_)
          · have V := V.1 c
            refine r_lconst (v := (lN 0)) dX10_agree_267 rfl ?_
            refine r_laddN dX10_agree_268 ?_
            refine r_lstore (L' := [(13, .long (lN (x13 + 0))), (11, .long (lN (x11 + 1))), (16, .int (nI 1)), (0, .ref x0), (1, .int x1), (2, .int x2), (3, .int x3), (4, .long (lN x4)), (6, .long (lN x6)), (8, .long (lN x8)), (10, .int (nI x10)), (15, .int (nI x15))]) dX10_agree_269 (by decide) rfl ?_
            refine r_iincN 11 (b := 1) (L' := [(15, .int (nI (x15 + 1))), (13, .long (lN (x13 + 0))), (11, .long (lN (x11 + 1))), (16, .int (nI 1)), (0, .ref x0), (1, .int x1), (2, .int x2), (3, .int x3), (4, .long (lN x4)), (6, .long (lN x6)), (8, .long (lN x8)), (10, .int (nI x10))]) dX10_agree_271 rfl rfl (by decide) rfl ?_
            refine r_goto (tgt := 165) dX10_agree_274 (by decide) ?_
            exact Blk.sub [4, 5, 6, 7, 8, 9, 10, 11, 2, 1, 0] rfl (V _ _ _ HO HM)
          · have V := V.2 c
            refine r_lconst (v := (lN 1)) dX10_agree_263 rfl ?_
            refine r_goto (tgt := 268) dX10_agree_264 (by decide) ?_
            refine r_laddN dX10_agree_268 ?_
            refine r_lstore (L' := [(13, .long (lN (x13 + 1))), (11, .long (lN (x11 + 1))), (16, .int (nI 1)), (0, .ref x0), (1, .int x1), (2, .int x2), (3, .int x3), (4, .long (lN x4)), (6, .long (lN x6)), (8, .long (lN x8)), (10, .int (nI x10)), (15, .int (nI x15))]) dX10_agree_269 (by decide) rfl ?_
            refine r_iincN 11 (b := 1) (L' := [(15, .int (nI (x15 + 1))), (13, .long (lN (x13 + 1))), (11, .long (lN (x11 + 1))), (16, .int (nI 1)), (0, .ref x0), (1, .int x1), (2, .int x2), (3, .int x3), (4, .long (lN x4)), (6, .long (lN x6)), (8, .long (lN x8)), (10, .int (nI x10))]) dX10_agree_271 rfl rfl (by decide) rfl ?_
            refine r_goto (tgt := 165) dX10_agree_274 (by decide) ?_
            exact Blk.sub [4, 5, 6, 7, 8, 9, 10, 11, 2, 1, 0] rfl (V _ _ _ HO HM)
