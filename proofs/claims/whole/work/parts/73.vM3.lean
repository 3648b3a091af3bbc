set_option maxRecDepth 20000 in
theorem wF_X10_62 : Cond.fieldLink "StateSharesModel" 62 "StateSharesModel" "limbs" "[J" ∈ lw_gd := lw_in 1058 (by decide +kernel) rfl
set_option maxRecDepth 20000 in
theorem wF_X10_65 : Cond.fieldLink "StateSharesModel" 65 "StateSharesModel" "lengths" "[I" ∈ lw_gd := lw_in 1059 (by decide +kernel) rfl
set_option maxRecDepth 20000 in
theorem wF_X10_68 : Cond.fieldLink "StateSharesModel" 68 "StateSharesModel" "powers" "[I" ∈ lw_gd := lw_in 1060 (by decide +kernel) rfl
set_option maxRecDepth 20000 in
theorem wL_X10_217 : Cond.constantLong "StateSharesModel" 217 (1000000000) ∈ lw_gd := lw_in 1030 (by decide +kernel) rfl
set_option maxRecDepth 20000 in
theorem wM_X10_219 : Cond.methodLink "StateSharesModel" 219 (yX10_trim) ∈ lw_gd := lw_in 1311 (by decide +kernel) rfl
set_option maxRecDepth 20000 in
theorem wi_X10_trim : Cond.instanceMethod (yX10_trim) ∈ lw_gd := lw_in 1313 (by decide +kernel) rfl
set_option maxRecDepth 20000 in
theorem wS_X10_trim : Cond.selects "StateSharesModel" (yX10_trim) (yX10_trim) ∈ lw_gd := lw_inS (q := ((yX10_trim), 33)) 62 (by decide +kernel)
set_option maxRecDepth 20000 in
theorem wc_X10_trim : Cond.code yX10_trim cX10_trim 2 none ∈ lw_gd := lw_in 1314 (by decide +kernel) rfl
set_option maxRecDepth 20000 in
theorem wF_X10_59 : Cond.fieldLink "StateSharesModel" 59 "StateSharesModel" "primes" "[I" ∈ lw_gd := lw_in 1057 (by decide +kernel) rfl
set_option maxRecDepth 20000 in
theorem wM_X10_222 : Cond.methodLink "StateSharesModel" 222 (yX10_restBy) ∈ lw_gd := lw_in 1303 (by decide +kernel) rfl
set_option maxRecDepth 20000 in
theorem wi_X10_restBy : Cond.instanceMethod (yX10_restBy) ∈ lw_gd := lw_in 1305 (by decide +kernel) rfl
set_option maxRecDepth 20000 in
theorem wS_X10_restBy : Cond.selects "StateSharesModel" (yX10_restBy) (yX10_restBy) ∈ lw_gd := lw_inS (q := ((yX10_restBy), 33)) 60 (by decide +kernel)
set_option maxRecDepth 20000 in
theorem wc_X10_restBy : Cond.code yX10_restBy cX10_restBy 7 (some .long) ∈ lw_gd := lw_in 1306 (by decide +kernel) rfl
set_option maxRecDepth 20000 in
theorem wM_X10_226 : Cond.methodLink "StateSharesModel" 226 (yX10_divide) ∈ lw_gd := lw_in 1307 (by decide +kernel) rfl
set_option maxRecDepth 20000 in
theorem wi_X10_divide : Cond.instanceMethod (yX10_divide) ∈ lw_gd := lw_in 1309 (by decide +kernel) rfl
set_option maxRecDepth 20000 in
theorem wS_X10_divide : Cond.selects "StateSharesModel" (yX10_divide) (yX10_divide) ∈ lw_gd := lw_inS (q := ((yX10_divide), 33)) 61 (by decide +kernel)
set_option maxRecDepth 20000 in
theorem wc_X10_divide : Cond.code yX10_divide cX10_divide 9 none ∈ lw_gd := lw_in 1310 (by decide +kernel) rfl
set_option maxRecDepth 20000 in
theorem wM_X10_88 : Cond.methodLink "StateSharesModel" 88 (yX10_times) ∈ lw_gd := lw_in 1026 (by decide +kernel) rfl
set_option maxRecDepth 20000 in
theorem wi_X10_times : Cond.instanceMethod (yX10_times) ∈ lw_gd := lw_in 1028 (by decide +kernel) rfl
set_option maxRecDepth 20000 in
theorem wS_X10_times : Cond.selects "StateSharesModel" (yX10_times) (yX10_times) ∈ lw_gd := lw_inS (q := ((yX10_times), 33)) 35 (by decide +kernel)
set_option maxRecDepth 20000 in
theorem wc_X10_times : Cond.code yX10_times cX10_times 10 none ∈ lw_gd := lw_in 1029 (by decide +kernel) rfl
set_option maxRecDepth 20000 in
theorem wM_X10_82 : Cond.methodLink "StateSharesModel" 82 (yX10_set) ∈ lw_gd := lw_in 1021 (by decide +kernel) rfl
set_option maxRecDepth 20000 in
theorem wi_X10_set : Cond.instanceMethod (yX10_set) ∈ lw_gd := lw_in 1023 (by decide +kernel) rfl
set_option maxRecDepth 20000 in
theorem wS_X10_set : Cond.selects "StateSharesModel" (yX10_set) (yX10_set) ∈ lw_gd := lw_inS (q := ((yX10_set), 33)) 34 (by decide +kernel)
set_option maxRecDepth 20000 in
theorem wc_X10_set : Cond.code yX10_set cX10_set 5 none ∈ lw_gd := lw_in 1024 (by decide +kernel) rfl
set_option maxRecDepth 20000 in
theorem wM_X10_229 : Cond.methodLink "StateSharesModel" 229 (yX10_reduce) ∈ lw_gd := lw_in 1299 (by decide +kernel) rfl
set_option maxRecDepth 20000 in
theorem wi_X10_reduce : Cond.instanceMethod (yX10_reduce) ∈ lw_gd := lw_in 1301 (by decide +kernel) rfl
set_option maxRecDepth 20000 in
theorem wS_X10_reduce : Cond.selects "StateSharesModel" (yX10_reduce) (yX10_reduce) ∈ lw_gd := lw_inS (q := ((yX10_reduce), 33)) 59 (by decide +kernel)
set_option maxRecDepth 20000 in
theorem wc_X10_reduce : Cond.code yX10_reduce cX10_reduce 3 none ∈ lw_gd := lw_in 1302 (by decide +kernel) rfl
set_option maxRecDepth 20000 in
theorem wM_X10_232 : Cond.methodLink "StateSharesModel" 232 (yX10_copy) ∈ lw_gd := lw_in 1319 (by decide +kernel) rfl
set_option maxRecDepth 20000 in
theorem wi_X10_copy : Cond.instanceMethod (yX10_copy) ∈ lw_gd := lw_in 1321 (by decide +kernel) rfl
set_option maxRecDepth 20000 in
theorem wS_X10_copy : Cond.selects "StateSharesModel" (yX10_copy) (yX10_copy) ∈ lw_gd := lw_inS (q := ((yX10_copy), 33)) 64 (by decide +kernel)
set_option maxRecDepth 20000 in
theorem wc_X10_copy : Cond.code yX10_copy cX10_copy 4 none ∈ lw_gd := lw_in 1322 (by decide +kernel) rfl
set_option maxRecDepth 20000 in
theorem wM_X10_236 : Cond.methodLink "StateSharesModel" 236 (yX10_align) ∈ lw_gd := lw_in 1331 (by decide +kernel) rfl
set_option maxRecDepth 20000 in
theorem wi_X10_align : Cond.instanceMethod (yX10_align) ∈ lw_gd := lw_in 1333 (by decide +kernel) rfl
set_option maxRecDepth 20000 in
theorem wS_X10_align : Cond.selects "StateSharesModel" (yX10_align) (yX10_align) ∈ lw_gd := lw_inS (q := ((yX10_align), 33)) 67 (by decide +kernel)
set_option maxRecDepth 20000 in
theorem wc_X10_align : Cond.code yX10_align cX10_align 4 none ∈ lw_gd := lw_in 1334 (by decide +kernel) rfl
set_option maxRecDepth 20000 in
theorem wM_X10_239 : Cond.methodLink "StateSharesModel" 239 (yX10_below) ∈ lw_gd := lw_in 1343 (by decide +kernel) rfl
set_option maxRecDepth 20000 in
theorem wi_X10_below : Cond.instanceMethod (yX10_below) ∈ lw_gd := lw_in 1345 (by decide +kernel) rfl
set_option maxRecDepth 20000 in
theorem wS_X10_below : Cond.selects "StateSharesModel" (yX10_below) (yX10_below) ∈ lw_gd := lw_inS (q := ((yX10_below), 33)) 70 (by decide +kernel)
set_option maxRecDepth 20000 in
theorem wc_X10_below : Cond.code yX10_below cX10_below 5 none ∈ lw_gd := lw_in 1346 (by decide +kernel) rfl
set_option maxRecDepth 20000 in
theorem wM_X10_242 : Cond.methodLink "StateSharesModel" 242 (yX10_compare) ∈ lw_gd := lw_in 1347 (by decide +kernel) rfl
set_option maxRecDepth 20000 in
theorem wi_X10_compare : Cond.instanceMethod (yX10_compare) ∈ lw_gd := lw_in 1349 (by decide +kernel) rfl
set_option maxRecDepth 20000 in
theorem wS_X10_compare : Cond.selects "StateSharesModel" (yX10_compare) (yX10_compare) ∈ lw_gd := lw_inS (q := ((yX10_compare), 33)) 71 (by decide +kernel)
set_option maxRecDepth 20000 in
theorem wc_X10_compare : Cond.code yX10_compare cX10_compare 8 (some .int) ∈ lw_gd := lw_in 1350 (by decide +kernel) rfl
set_option maxRecDepth 20000 in
theorem wM_X10_245 : Cond.methodLink "StateSharesModel" 245 (yX10_digits) ∈ lw_gd := lw_in 1355 (by decide +kernel) rfl
set_option maxRecDepth 20000 in
theorem wi_X10_digits : Cond.instanceMethod (yX10_digits) ∈ lw_gd := lw_in 1357 (by decide +kernel) rfl
set_option maxRecDepth 20000 in
theorem wS_X10_digits : Cond.selects "StateSharesModel" (yX10_digits) (yX10_digits) ∈ lw_gd := lw_inS (q := ((yX10_digits), 33)) 73 (by decide +kernel)
set_option maxRecDepth 20000 in
theorem wc_X10_digits : Cond.code yX10_digits cX10_digits 3 (some .long) ∈ lw_gd := lw_in 1358 (by decide +kernel) rfl
abbrev M_X10_add : xM := (yX10_add, cX10_add, 9, none, { frames := 3, cells := 0, slots := 0, locals := 71 })
abbrev M_X10_align : xM := (yX10_align, cX10_align, 4, none, { frames := 1, cells := 0, slots := 0, locals := 29 })
abbrev M_X10_below : xM := (yX10_below, cX10_below, 5, none, { frames := 1, cells := 0, slots := 0, locals := 29 })
abbrev M_X10_compare : xM := (yX10_compare, cX10_compare, 8, (some .int), { frames := 0, cells := 0, slots := 0, locals := 0 })
abbrev M_X10_copy : xM := (yX10_copy, cX10_copy, 4, none, { frames := 0, cells := 0, slots := 0, locals := 0 })
abbrev M_X10_digits : xM := (yX10_digits, cX10_digits, 3, (some .long), { frames := 0, cells := 0, slots := 0, locals := 0 })
abbrev M_X10_divide : xM := (yX10_divide, cX10_divide, 9, none, { frames := 1, cells := 0, slots := 0, locals := 21 })
abbrev M_X10_isLong : xM := (yX10_isLong, cX10_isLong, 2, (some .boolean), { frames := 2, cells := 0, slots := 0, locals := 53 })
abbrev M_X10_part : xM := (yX10_part, cX10_part, 7, none, { frames := 3, cells := 0, slots := 0, locals := 71 })
abbrev M_X10_partOf : xM := (yX10_partOf, cX10_partOf, 3, (some .long), { frames := 2, cells := 0, slots := 0, locals := 53 })
abbrev M_X10_reduce : xM := (yX10_reduce, cX10_reduce, 3, none, { frames := 2, cells := 0, slots := 0, locals := 49 })
abbrev M_X10_restBy : xM := (yX10_restBy, cX10_restBy, 7, (some .long), { frames := 0, cells := 0, slots := 0, locals := 0 })
abbrev M_X10_set : xM := (yX10_set, cX10_set, 5, none, { frames := 0, cells := 0, slots := 0, locals := 0 })
abbrev M_X10_take : xM := (yX10_take, cX10_take, 8, none, { frames := 3, cells := 0, slots := 0, locals := 71 })
abbrev M_X10_times : xM := (yX10_times, cX10_times, 10, none, { frames := 0, cells := 0, slots := 0, locals := 0 })
abbrev M_X10_trim : xM := (yX10_trim, cX10_trim, 2, none, { frames := 0, cells := 0, slots := 0, locals := 0 })
theorem dX10_set_0 : decode cX10_set 0 = .ok (.iconst 0, 1) := by decide +kernel
theorem dX10_set_1 : decode cX10_set 1 = .ok (.istore 4, 2) := by decide +kernel
theorem dX10_set_3 : decode cX10_set 3 = .ok (.iload 4, 2) := by decide +kernel
theorem dX10_set_5 : decode cX10_set 5 = .ok (.sipush 160, 3) := by decide +kernel
theorem dX10_set_8 : decode cX10_set 8 = .ok (.if_icmp .ge 23, 3) := by decide +kernel
theorem dX10_set_11 : decode cX10_set 11 = .ok (.aload_n 0, 1) := by decide +kernel
theorem dX10_set_12 : decode cX10_set 12 = .ok (.getfield 62, 3) := by decide +kernel
theorem dX10_set_15 : decode cX10_set 15 = .ok (.sipush 160, 3) := by decide +kernel
theorem dX10_set_18 : decode cX10_set 18 = .ok (.iload_n 1, 1) := by decide +kernel
theorem dX10_set_19 : decode cX10_set 19 = .ok (.imul, 1) := by decide +kernel
theorem dX10_set_20 : decode cX10_set 20 = .ok (.iload 4, 2) := by decide +kernel
theorem dX10_set_22 : decode cX10_set 22 = .ok (.iadd, 1) := by decide +kernel
theorem dX10_set_23 : decode cX10_set 23 = .ok (.lconst 0, 1) := by decide +kernel
theorem dX10_set_24 : decode cX10_set 24 = .ok (.lastore, 1) := by decide +kernel
theorem dX10_set_25 : decode cX10_set 25 = .ok (.iinc 4 1, 3) := by decide +kernel
theorem dX10_set_28 : decode cX10_set 28 = .ok (.goto (-25), 3) := by decide +kernel
theorem dX10_set_31 : decode cX10_set 31 = .ok (.iconst 0, 1) := by decide +kernel
theorem dX10_set_32 : decode cX10_set 32 = .ok (.istore 4, 2) := by decide +kernel
theorem dX10_set_34 : decode cX10_set 34 = .ok (.iload 4, 2) := by decide +kernel
theorem dX10_set_36 : decode cX10_set 36 = .ok (.sipush 168, 3) := by decide +kernel
theorem dX10_set_39 : decode cX10_set 39 = .ok (.if_icmp .ge 23, 3) := by decide +kernel
theorem dX10_set_42 : decode cX10_set 42 = .ok (.aload_n 0, 1) := by decide +kernel
theorem dX10_set_43 : decode cX10_set 43 = .ok (.getfield 68, 3) := by decide +kernel
theorem dX10_set_46 : decode cX10_set 46 = .ok (.sipush 168, 3) := by decide +kernel
theorem dX10_set_49 : decode cX10_set 49 = .ok (.iload_n 1, 1) := by decide +kernel
theorem dX10_set_50 : decode cX10_set 50 = .ok (.imul, 1) := by decide +kernel
theorem dX10_set_51 : decode cX10_set 51 = .ok (.iload 4, 2) := by decide +kernel
theorem dX10_set_53 : decode cX10_set 53 = .ok (.iadd, 1) := by decide +kernel
theorem dX10_set_54 : decode cX10_set 54 = .ok (.iconst 0, 1) := by decide +kernel
theorem dX10_set_55 : decode cX10_set 55 = .ok (.iastore, 1) := by decide +kernel
theorem dX10_set_56 : decode cX10_set 56 = .ok (.iinc 4 1, 3) := by decide +kernel
theorem dX10_set_59 : decode cX10_set 59 = .ok (.goto (-25), 3) := by decide +kernel
theorem dX10_set_62 : decode cX10_set 62 = .ok (.aload_n 0, 1) := by decide +kernel
theorem dX10_set_63 : decode cX10_set 63 = .ok (.getfield 62, 3) := by decide +kernel
theorem dX10_set_66 : decode cX10_set 66 = .ok (.sipush 160, 3) := by decide +kernel
theorem dX10_set_69 : decode cX10_set 69 = .ok (.iload_n 1, 1) := by decide +kernel
theorem dX10_set_70 : decode cX10_set 70 = .ok (.imul, 1) := by decide +kernel
theorem dX10_set_71 : decode cX10_set 71 = .ok (.lload_n 2, 1) := by decide +kernel
theorem dX10_set_72 : decode cX10_set 72 = .ok (.lastore, 1) := by decide +kernel
theorem dX10_set_73 : decode cX10_set 73 = .ok (.aload_n 0, 1) := by decide +kernel
theorem dX10_set_74 : decode cX10_set 74 = .ok (.getfield 65, 3) := by decide +kernel
theorem dX10_set_77 : decode cX10_set 77 = .ok (.iload_n 1, 1) := by decide +kernel
theorem dX10_set_78 : decode cX10_set 78 = .ok (.lload_n 2, 1) := by decide +kernel
theorem dX10_set_79 : decode cX10_set 79 = .ok (.lconst 0, 1) := by decide +kernel
theorem dX10_set_80 : decode cX10_set 80 = .ok (.lcmp, 1) := by decide +kernel
theorem dX10_set_81 : decode cX10_set 81 = .ok (.ifCond .ne 7, 3) := by decide +kernel
theorem dX10_set_84 : decode cX10_set 84 = .ok (.iconst 0, 1) := by decide +kernel
theorem dX10_set_85 : decode cX10_set 85 = .ok (.goto 4, 3) := by decide +kernel
theorem dX10_set_88 : decode cX10_set 88 = .ok (.iconst 1, 1) := by decide +kernel
theorem dX10_set_89 : decode cX10_set 89 = .ok (.iastore, 1) := by decide +kernel
theorem dX10_set_90 : decode cX10_set 90 = .ok (.return_, 1) := by decide +kernel
theorem dX10_copy_0 : decode cX10_copy 0 = .ok (.iconst 0, 1) := by decide +kernel
theorem dX10_copy_1 : decode cX10_copy 1 = .ok (.istore_n 3, 1) := by decide +kernel
theorem dX10_copy_2 : decode cX10_copy 2 = .ok (.iload_n 3, 1) := by decide +kernel
theorem dX10_copy_3 : decode cX10_copy 3 = .ok (.sipush 160, 3) := by decide +kernel
theorem dX10_copy_6 : decode cX10_copy 6 = .ok (.if_icmp .ge 33, 3) := by decide +kernel
theorem dX10_copy_9 : decode cX10_copy 9 = .ok (.aload_n 0, 1) := by decide +kernel
theorem dX10_copy_10 : decode cX10_copy 10 = .ok (.getfield 62, 3) := by decide +kernel
theorem dX10_copy_13 : decode cX10_copy 13 = .ok (.sipush 160, 3) := by decide +kernel
theorem dX10_copy_16 : decode cX10_copy 16 = .ok (.iload_n 2, 1) := by decide +kernel
theorem dX10_copy_17 : decode cX10_copy 17 = .ok (.imul, 1) := by decide +kernel
theorem dX10_copy_18 : decode cX10_copy 18 = .ok (.iload_n 3, 1) := by decide +kernel
theorem dX10_copy_19 : decode cX10_copy 19 = .ok (.iadd, 1) := by decide +kernel
theorem dX10_copy_20 : decode cX10_copy 20 = .ok (.aload_n 0, 1) := by decide +kernel
theorem dX10_copy_21 : decode cX10_copy 21 = .ok (.getfield 62, 3) := by decide +kernel
theorem dX10_copy_24 : decode cX10_copy 24 = .ok (.sipush 160, 3) := by decide +kernel
theorem dX10_copy_27 : decode cX10_copy 27 = .ok (.iload_n 1, 1) := by decide +kernel
theorem dX10_copy_28 : decode cX10_copy 28 = .ok (.imul, 1) := by decide +kernel
theorem dX10_copy_29 : decode cX10_copy 29 = .ok (.iload_n 3, 1) := by decide +kernel
theorem dX10_copy_30 : decode cX10_copy 30 = .ok (.iadd, 1) := by decide +kernel
theorem dX10_copy_31 : decode cX10_copy 31 = .ok (.laload, 1) := by decide +kernel
theorem dX10_copy_32 : decode cX10_copy 32 = .ok (.lastore, 1) := by decide +kernel
theorem dX10_copy_33 : decode cX10_copy 33 = .ok (.iinc 3 1, 3) := by decide +kernel
theorem dX10_copy_36 : decode cX10_copy 36 = .ok (.goto (-34), 3) := by decide +kernel
theorem dX10_copy_39 : decode cX10_copy 39 = .ok (.iconst 0, 1) := by decide +kernel
theorem dX10_copy_40 : decode cX10_copy 40 = .ok (.istore_n 3, 1) := by decide +kernel
theorem dX10_copy_41 : decode cX10_copy 41 = .ok (.iload_n 3, 1) := by decide +kernel
theorem dX10_copy_42 : decode cX10_copy 42 = .ok (.sipush 168, 3) := by decide +kernel
theorem dX10_copy_45 : decode cX10_copy 45 = .ok (.if_icmp .ge 33, 3) := by decide +kernel
theorem dX10_copy_48 : decode cX10_copy 48 = .ok (.aload_n 0, 1) := by decide +kernel
theorem dX10_copy_49 : decode cX10_copy 49 = .ok (.getfield 68, 3) := by decide +kernel
theorem dX10_copy_52 : decode cX10_copy 52 = .ok (.sipush 168, 3) := by decide +kernel
theorem dX10_copy_55 : decode cX10_copy 55 = .ok (.iload_n 2, 1) := by decide +kernel
theorem dX10_copy_56 : decode cX10_copy 56 = .ok (.imul, 1) := by decide +kernel
theorem dX10_copy_57 : decode cX10_copy 57 = .ok (.iload_n 3, 1) := by decide +kernel
theorem dX10_copy_58 : decode cX10_copy 58 = .ok (.iadd, 1) := by decide +kernel
theorem dX10_copy_59 : decode cX10_copy 59 = .ok (.aload_n 0, 1) := by decide +kernel
theorem dX10_copy_60 : decode cX10_copy 60 = .ok (.getfield 68, 3) := by decide +kernel
theorem dX10_copy_63 : decode cX10_copy 63 = .ok (.sipush 168, 3) := by decide +kernel
theorem dX10_copy_66 : decode cX10_copy 66 = .ok (.iload_n 1, 1) := by decide +kernel
theorem dX10_copy_67 : decode cX10_copy 67 = .ok (.imul, 1) := by decide +kernel
theorem dX10_copy_68 : decode cX10_copy 68 = .ok (.iload_n 3, 1) := by decide +kernel
theorem dX10_copy_69 : decode cX10_copy 69 = .ok (.iadd, 1) := by decide +kernel
theorem dX10_copy_70 : decode cX10_copy 70 = .ok (.iaload, 1) := by decide +kernel
theorem dX10_copy_71 : decode cX10_copy 71 = .ok (.iastore, 1) := by decide +kernel
theorem dX10_copy_72 : decode cX10_copy 72 = .ok (.iinc 3 1, 3) := by decide +kernel
theorem dX10_copy_75 : decode cX10_copy 75 = .ok (.goto (-34), 3) := by decide +kernel
theorem dX10_copy_78 : decode cX10_copy 78 = .ok (.aload_n 0, 1) := by decide +kernel
theorem dX10_copy_79 : decode cX10_copy 79 = .ok (.getfield 65, 3) := by decide +kernel
theorem dX10_copy_82 : decode cX10_copy 82 = .ok (.iload_n 2, 1) := by decide +kernel
theorem dX10_copy_83 : decode cX10_copy 83 = .ok (.aload_n 0, 1) := by decide +kernel
theorem dX10_copy_84 : decode cX10_copy 84 = .ok (.getfield 65, 3) := by decide +kernel
theorem dX10_copy_87 : decode cX10_copy 87 = .ok (.iload_n 1, 1) := by decide +kernel
theorem dX10_copy_88 : decode cX10_copy 88 = .ok (.iaload, 1) := by decide +kernel
theorem dX10_copy_89 : decode cX10_copy 89 = .ok (.iastore, 1) := by decide +kernel
theorem dX10_copy_90 : decode cX10_copy 90 = .ok (.return_, 1) := by decide +kernel
theorem dX10_times_0 : decode cX10_times 0 = .ok (.lconst 0, 1) := by decide +kernel
theorem dX10_times_1 : decode cX10_times 1 = .ok (.lstore 4, 2) := by decide +kernel
theorem dX10_times_3 : decode cX10_times 3 = .ok (.aload_n 0, 1) := by decide +kernel
theorem dX10_times_4 : decode cX10_times 4 = .ok (.getfield 65, 3) := by decide +kernel
theorem dX10_times_7 : decode cX10_times 7 = .ok (.iload_n 1, 1) := by decide +kernel
theorem dX10_times_8 : decode cX10_times 8 = .ok (.iaload, 1) := by decide +kernel
theorem dX10_times_9 : decode cX10_times 9 = .ok (.istore 6, 2) := by decide +kernel
theorem dX10_times_11 : decode cX10_times 11 = .ok (.iconst 0, 1) := by decide +kernel
theorem dX10_times_12 : decode cX10_times 12 = .ok (.istore 7, 2) := by decide +kernel
theorem dX10_times_14 : decode cX10_times 14 = .ok (.iload 7, 2) := by decide +kernel
theorem dX10_times_16 : decode cX10_times 16 = .ok (.iload 6, 2) := by decide +kernel
theorem dX10_times_18 : decode cX10_times 18 = .ok (.if_icmp .ge 56, 3) := by decide +kernel
theorem dX10_times_21 : decode cX10_times 21 = .ok (.aload_n 0, 1) := by decide +kernel
theorem dX10_times_22 : decode cX10_times 22 = .ok (.getfield 62, 3) := by decide +kernel
theorem dX10_times_25 : decode cX10_times 25 = .ok (.sipush 160, 3) := by decide +kernel
theorem dX10_times_28 : decode cX10_times 28 = .ok (.iload_n 1, 1) := by decide +kernel
theorem dX10_times_29 : decode cX10_times 29 = .ok (.imul, 1) := by decide +kernel
theorem dX10_times_30 : decode cX10_times 30 = .ok (.iload 7, 2) := by decide +kernel
theorem dX10_times_32 : decode cX10_times 32 = .ok (.iadd, 1) := by decide +kernel
theorem dX10_times_33 : decode cX10_times 33 = .ok (.laload, 1) := by decide +kernel
theorem dX10_times_34 : decode cX10_times 34 = .ok (.lload_n 2, 1) := by decide +kernel
theorem dX10_times_35 : decode cX10_times 35 = .ok (.lmul, 1) := by decide +kernel
theorem dX10_times_36 : decode cX10_times 36 = .ok (.lload 4, 2) := by decide +kernel
theorem dX10_times_38 : decode cX10_times 38 = .ok (.ladd, 1) := by decide +kernel
theorem dX10_times_39 : decode cX10_times 39 = .ok (.lstore 8, 2) := by decide +kernel
theorem dX10_times_41 : decode cX10_times 41 = .ok (.aload_n 0, 1) := by decide +kernel
theorem dX10_times_42 : decode cX10_times 42 = .ok (.getfield 62, 3) := by decide +kernel
theorem dX10_times_45 : decode cX10_times 45 = .ok (.sipush 160, 3) := by decide +kernel
theorem dX10_times_48 : decode cX10_times 48 = .ok (.iload_n 1, 1) := by decide +kernel
theorem dX10_times_49 : decode cX10_times 49 = .ok (.imul, 1) := by decide +kernel
theorem dX10_times_50 : decode cX10_times 50 = .ok (.iload 7, 2) := by decide +kernel
theorem dX10_times_52 : decode cX10_times 52 = .ok (.iadd, 1) := by decide +kernel
theorem dX10_times_53 : decode cX10_times 53 = .ok (.lload 8, 2) := by decide +kernel
theorem dX10_times_55 : decode cX10_times 55 = .ok (.ldc2_w 217, 3) := by decide +kernel
theorem dX10_times_58 : decode cX10_times 58 = .ok (.lrem, 1) := by decide +kernel
theorem dX10_times_59 : decode cX10_times 59 = .ok (.lastore, 1) := by decide +kernel
theorem dX10_times_60 : decode cX10_times 60 = .ok (.lload 8, 2) := by decide +kernel
theorem dX10_times_62 : decode cX10_times 62 = .ok (.ldc2_w 217, 3) := by decide +kernel
theorem dX10_times_65 : decode cX10_times 65 = .ok (.ldiv, 1) := by decide +kernel
theorem dX10_times_66 : decode cX10_times 66 = .ok (.lstore 4, 2) := by decide +kernel
theorem dX10_times_68 : decode cX10_times 68 = .ok (.iinc 7 1, 3) := by decide +kernel
theorem dX10_times_71 : decode cX10_times 71 = .ok (.goto (-57), 3) := by decide +kernel
theorem dX10_times_74 : decode cX10_times 74 = .ok (.lload 4, 2) := by decide +kernel
theorem dX10_times_76 : decode cX10_times 76 = .ok (.lconst 0, 1) := by decide +kernel
theorem dX10_times_77 : decode cX10_times 77 = .ok (.lcmp, 1) := by decide +kernel
theorem dX10_times_78 : decode cX10_times 78 = .ok (.ifCond .le 21, 3) := by decide +kernel
theorem dX10_times_81 : decode cX10_times 81 = .ok (.aload_n 0, 1) := by decide +kernel
theorem dX10_times_82 : decode cX10_times 82 = .ok (.getfield 62, 3) := by decide +kernel
theorem dX10_times_85 : decode cX10_times 85 = .ok (.sipush 160, 3) := by decide +kernel
theorem dX10_times_88 : decode cX10_times 88 = .ok (.iload_n 1, 1) := by decide +kernel
theorem dX10_times_89 : decode cX10_times 89 = .ok (.imul, 1) := by decide +kernel
theorem dX10_times_90 : decode cX10_times 90 = .ok (.iload 6, 2) := by decide +kernel
theorem dX10_times_92 : decode cX10_times 92 = .ok (.iadd, 1) := by decide +kernel
theorem dX10_times_93 : decode cX10_times 93 = .ok (.lload 4, 2) := by decide +kernel
theorem dX10_times_95 : decode cX10_times 95 = .ok (.lastore, 1) := by decide +kernel
theorem dX10_times_96 : decode cX10_times 96 = .ok (.iinc 6 1, 3) := by decide +kernel
theorem dX10_times_99 : decode cX10_times 99 = .ok (.aload_n 0, 1) := by decide +kernel
theorem dX10_times_100 : decode cX10_times 100 = .ok (.getfield 65, 3) := by decide +kernel
theorem dX10_times_103 : decode cX10_times 103 = .ok (.iload_n 1, 1) := by decide +kernel
theorem dX10_times_104 : decode cX10_times 104 = .ok (.iload 6, 2) := by decide +kernel
theorem dX10_times_106 : decode cX10_times 106 = .ok (.iastore, 1) := by decide +kernel
theorem dX10_times_107 : decode cX10_times 107 = .ok (.return_, 1) := by decide +kernel
theorem dX10_restBy_0 : decode cX10_restBy 0 = .ok (.lconst 0, 1) := by decide +kernel
theorem dX10_restBy_1 : decode cX10_restBy 1 = .ok (.lstore 4, 2) := by decide +kernel
theorem dX10_restBy_3 : decode cX10_restBy 3 = .ok (.aload_n 0, 1) := by decide +kernel
theorem dX10_restBy_4 : decode cX10_restBy 4 = .ok (.getfield 65, 3) := by decide +kernel
theorem dX10_restBy_7 : decode cX10_restBy 7 = .ok (.iload_n 1, 1) := by decide +kernel
theorem dX10_restBy_8 : decode cX10_restBy 8 = .ok (.iaload, 1) := by decide +kernel
theorem dX10_restBy_9 : decode cX10_restBy 9 = .ok (.iconst 1, 1) := by decide +kernel
theorem dX10_restBy_10 : decode cX10_restBy 10 = .ok (.isub, 1) := by decide +kernel
theorem dX10_restBy_11 : decode cX10_restBy 11 = .ok (.istore 6, 2) := by decide +kernel
theorem dX10_restBy_13 : decode cX10_restBy 13 = .ok (.iload 6, 2) := by decide +kernel
theorem dX10_restBy_15 : decode cX10_restBy 15 = .ok (.ifCond .lt 33, 3) := by decide +kernel
theorem dX10_restBy_18 : decode cX10_restBy 18 = .ok (.lload 4, 2) := by decide +kernel
theorem dX10_restBy_20 : decode cX10_restBy 20 = .ok (.ldc2_w 217, 3) := by decide +kernel
theorem dX10_restBy_23 : decode cX10_restBy 23 = .ok (.lmul, 1) := by decide +kernel
theorem dX10_restBy_24 : decode cX10_restBy 24 = .ok (.aload_n 0, 1) := by decide +kernel
theorem dX10_restBy_25 : decode cX10_restBy 25 = .ok (.getfield 62, 3) := by decide +kernel
theorem dX10_restBy_28 : decode cX10_restBy 28 = .ok (.sipush 160, 3) := by decide +kernel
theorem dX10_restBy_31 : decode cX10_restBy 31 = .ok (.iload_n 1, 1) := by decide +kernel
theorem dX10_restBy_32 : decode cX10_restBy 32 = .ok (.imul, 1) := by decide +kernel
theorem dX10_restBy_33 : decode cX10_restBy 33 = .ok (.iload 6, 2) := by decide +kernel
theorem dX10_restBy_35 : decode cX10_restBy 35 = .ok (.iadd, 1) := by decide +kernel
theorem dX10_restBy_36 : decode cX10_restBy 36 = .ok (.laload, 1) := by decide +kernel
theorem dX10_restBy_37 : decode cX10_restBy 37 = .ok (.ladd, 1) := by decide +kernel
theorem dX10_restBy_38 : decode cX10_restBy 38 = .ok (.lload_n 2, 1) := by decide +kernel
theorem dX10_restBy_39 : decode cX10_restBy 39 = .ok (.lrem, 1) := by decide +kernel
theorem dX10_restBy_40 : decode cX10_restBy 40 = .ok (.lstore 4, 2) := by decide +kernel
theorem dX10_restBy_42 : decode cX10_restBy 42 = .ok (.iinc 6 (-1), 3) := by decide +kernel
theorem dX10_restBy_45 : decode cX10_restBy 45 = .ok (.goto (-32), 3) := by decide +kernel
theorem dX10_restBy_48 : decode cX10_restBy 48 = .ok (.lload 4, 2) := by decide +kernel
theorem dX10_restBy_50 : decode cX10_restBy 50 = .ok (.lreturn, 1) := by decide +kernel
theorem dX10_divide_0 : decode cX10_divide 0 = .ok (.lconst 0, 1) := by decide +kernel
theorem dX10_divide_1 : decode cX10_divide 1 = .ok (.lstore 4, 2) := by decide +kernel
theorem dX10_divide_3 : decode cX10_divide 3 = .ok (.aload_n 0, 1) := by decide +kernel
theorem dX10_divide_4 : decode cX10_divide 4 = .ok (.getfield 65, 3) := by decide +kernel
theorem dX10_divide_7 : decode cX10_divide 7 = .ok (.iload_n 1, 1) := by decide +kernel
theorem dX10_divide_8 : decode cX10_divide 8 = .ok (.iaload, 1) := by decide +kernel
theorem dX10_divide_9 : decode cX10_divide 9 = .ok (.iconst 1, 1) := by decide +kernel
theorem dX10_divide_10 : decode cX10_divide 10 = .ok (.isub, 1) := by decide +kernel
theorem dX10_divide_11 : decode cX10_divide 11 = .ok (.istore 6, 2) := by decide +kernel
theorem dX10_divide_13 : decode cX10_divide 13 = .ok (.iload 6, 2) := by decide +kernel
theorem dX10_divide_15 : decode cX10_divide 15 = .ok (.ifCond .lt 54, 3) := by decide +kernel
theorem dX10_divide_18 : decode cX10_divide 18 = .ok (.lload 4, 2) := by decide +kernel
theorem dX10_divide_20 : decode cX10_divide 20 = .ok (.ldc2_w 217, 3) := by decide +kernel
theorem dX10_divide_23 : decode cX10_divide 23 = .ok (.lmul, 1) := by decide +kernel
theorem dX10_divide_24 : decode cX10_divide 24 = .ok (.aload_n 0, 1) := by decide +kernel
theorem dX10_divide_25 : decode cX10_divide 25 = .ok (.getfield 62, 3) := by decide +kernel
theorem dX10_divide_28 : decode cX10_divide 28 = .ok (.sipush 160, 3) := by decide +kernel
theorem dX10_divide_31 : decode cX10_divide 31 = .ok (.iload_n 1, 1) := by decide +kernel
theorem dX10_divide_32 : decode cX10_divide 32 = .ok (.imul, 1) := by decide +kernel
theorem dX10_divide_33 : decode cX10_divide 33 = .ok (.iload 6, 2) := by decide +kernel
theorem dX10_divide_35 : decode cX10_divide 35 = .ok (.iadd, 1) := by decide +kernel
theorem dX10_divide_36 : decode cX10_divide 36 = .ok (.laload, 1) := by decide +kernel
theorem dX10_divide_37 : decode cX10_divide 37 = .ok (.ladd, 1) := by decide +kernel
theorem dX10_divide_38 : decode cX10_divide 38 = .ok (.lstore 7, 2) := by decide +kernel
theorem dX10_divide_40 : decode cX10_divide 40 = .ok (.aload_n 0, 1) := by decide +kernel
theorem dX10_divide_41 : decode cX10_divide 41 = .ok (.getfield 62, 3) := by decide +kernel
theorem dX10_divide_44 : decode cX10_divide 44 = .ok (.sipush 160, 3) := by decide +kernel
theorem dX10_divide_47 : decode cX10_divide 47 = .ok (.iload_n 1, 1) := by decide +kernel
theorem dX10_divide_48 : decode cX10_divide 48 = .ok (.imul, 1) := by decide +kernel
theorem dX10_divide_49 : decode cX10_divide 49 = .ok (.iload 6, 2) := by decide +kernel
theorem dX10_divide_51 : decode cX10_divide 51 = .ok (.iadd, 1) := by decide +kernel
theorem dX10_divide_52 : decode cX10_divide 52 = .ok (.lload 7, 2) := by decide +kernel
theorem dX10_divide_54 : decode cX10_divide 54 = .ok (.lload_n 2, 1) := by decide +kernel
theorem dX10_divide_55 : decode cX10_divide 55 = .ok (.ldiv, 1) := by decide +kernel
theorem dX10_divide_56 : decode cX10_divide 56 = .ok (.lastore, 1) := by decide +kernel
theorem dX10_divide_57 : decode cX10_divide 57 = .ok (.lload 7, 2) := by decide +kernel
theorem dX10_divide_59 : decode cX10_divide 59 = .ok (.lload_n 2, 1) := by decide +kernel
theorem dX10_divide_60 : decode cX10_divide 60 = .ok (.lrem, 1) := by decide +kernel
theorem dX10_divide_61 : decode cX10_divide 61 = .ok (.lstore 4, 2) := by decide +kernel
theorem dX10_divide_63 : decode cX10_divide 63 = .ok (.iinc 6 (-1), 3) := by decide +kernel
theorem dX10_divide_66 : decode cX10_divide 66 = .ok (.goto (-53), 3) := by decide +kernel
theorem dX10_divide_69 : decode cX10_divide 69 = .ok (.aload_n 0, 1) := by decide +kernel
theorem dX10_divide_70 : decode cX10_divide 70 = .ok (.iload_n 1, 1) := by decide +kernel
theorem dX10_divide_71 : decode cX10_divide 71 = .ok (.invokevirtual 219, 3) := by decide +kernel
theorem dX10_divide_74 : decode cX10_divide 74 = .ok (.return_, 1) := by decide +kernel
theorem dX10_trim_0 : decode cX10_trim 0 = .ok (.aload_n 0, 1) := by decide +kernel
theorem dX10_trim_1 : decode cX10_trim 1 = .ok (.getfield 65, 3) := by decide +kernel
theorem dX10_trim_4 : decode cX10_trim 4 = .ok (.iload_n 1, 1) := by decide +kernel
theorem dX10_trim_5 : decode cX10_trim 5 = .ok (.iaload, 1) := by decide +kernel
theorem dX10_trim_6 : decode cX10_trim 6 = .ok (.ifCond .le 40, 3) := by decide +kernel
theorem dX10_trim_9 : decode cX10_trim 9 = .ok (.aload_n 0, 1) := by decide +kernel
theorem dX10_trim_10 : decode cX10_trim 10 = .ok (.getfield 62, 3) := by decide +kernel
theorem dX10_trim_13 : decode cX10_trim 13 = .ok (.sipush 160, 3) := by decide +kernel
theorem dX10_trim_16 : decode cX10_trim 16 = .ok (.iload_n 1, 1) := by decide +kernel
theorem dX10_trim_17 : decode cX10_trim 17 = .ok (.imul, 1) := by decide +kernel
theorem dX10_trim_18 : decode cX10_trim 18 = .ok (.aload_n 0, 1) := by decide +kernel
theorem dX10_trim_19 : decode cX10_trim 19 = .ok (.getfield 65, 3) := by decide +kernel
theorem dX10_trim_22 : decode cX10_trim 22 = .ok (.iload_n 1, 1) := by decide +kernel
theorem dX10_trim_23 : decode cX10_trim 23 = .ok (.iaload, 1) := by decide +kernel
theorem dX10_trim_24 : decode cX10_trim 24 = .ok (.iadd, 1) := by decide +kernel
theorem dX10_trim_25 : decode cX10_trim 25 = .ok (.iconst 1, 1) := by decide +kernel
theorem dX10_trim_26 : decode cX10_trim 26 = .ok (.isub, 1) := by decide +kernel
theorem dX10_trim_27 : decode cX10_trim 27 = .ok (.laload, 1) := by decide +kernel
theorem dX10_trim_28 : decode cX10_trim 28 = .ok (.lconst 0, 1) := by decide +kernel
theorem dX10_trim_29 : decode cX10_trim 29 = .ok (.lcmp, 1) := by decide +kernel
theorem dX10_trim_30 : decode cX10_trim 30 = .ok (.ifCond .ne 16, 3) := by decide +kernel
theorem dX10_trim_33 : decode cX10_trim 33 = .ok (.aload_n 0, 1) := by decide +kernel
theorem dX10_trim_34 : decode cX10_trim 34 = .ok (.getfield 65, 3) := by decide +kernel
theorem dX10_trim_37 : decode cX10_trim 37 = .ok (.iload_n 1, 1) := by decide +kernel
theorem dX10_trim_38 : decode cX10_trim 38 = .ok (.dup2, 1) := by decide +kernel
theorem dX10_trim_39 : decode cX10_trim 39 = .ok (.iaload, 1) := by decide +kernel
theorem dX10_trim_40 : decode cX10_trim 40 = .ok (.iconst 1, 1) := by decide +kernel
theorem dX10_trim_41 : decode cX10_trim 41 = .ok (.isub, 1) := by decide +kernel
theorem dX10_trim_42 : decode cX10_trim 42 = .ok (.iastore, 1) := by decide +kernel
theorem dX10_trim_43 : decode cX10_trim 43 = .ok (.goto (-43), 3) := by decide +kernel
theorem dX10_trim_46 : decode cX10_trim 46 = .ok (.return_, 1) := by decide +kernel
theorem dX10_reduce_0 : decode cX10_reduce 0 = .ok (.iconst 0, 1) := by decide +kernel
theorem dX10_reduce_1 : decode cX10_reduce 1 = .ok (.istore_n 2, 1) := by decide +kernel
theorem dX10_reduce_2 : decode cX10_reduce 2 = .ok (.iload_n 2, 1) := by decide +kernel
theorem dX10_reduce_3 : decode cX10_reduce 3 = .ok (.sipush 168, 3) := by decide +kernel
theorem dX10_reduce_6 : decode cX10_reduce 6 = .ok (.if_icmp .ge 94, 3) := by decide +kernel
theorem dX10_reduce_9 : decode cX10_reduce 9 = .ok (.aload_n 0, 1) := by decide +kernel
theorem dX10_reduce_10 : decode cX10_reduce 10 = .ok (.getfield 65, 3) := by decide +kernel
theorem dX10_reduce_13 : decode cX10_reduce 13 = .ok (.iload_n 1, 1) := by decide +kernel
theorem dX10_reduce_14 : decode cX10_reduce 14 = .ok (.iaload, 1) := by decide +kernel
theorem dX10_reduce_15 : decode cX10_reduce 15 = .ok (.ifCond .ne 16, 3) := by decide +kernel
theorem dX10_reduce_18 : decode cX10_reduce 18 = .ok (.aload_n 0, 1) := by decide +kernel
theorem dX10_reduce_19 : decode cX10_reduce 19 = .ok (.getfield 68, 3) := by decide +kernel
theorem dX10_reduce_22 : decode cX10_reduce 22 = .ok (.sipush 168, 3) := by decide +kernel
theorem dX10_reduce_25 : decode cX10_reduce 25 = .ok (.iload_n 1, 1) := by decide +kernel
theorem dX10_reduce_26 : decode cX10_reduce 26 = .ok (.imul, 1) := by decide +kernel
theorem dX10_reduce_27 : decode cX10_reduce 27 = .ok (.iload_n 2, 1) := by decide +kernel
theorem dX10_reduce_28 : decode cX10_reduce 28 = .ok (.iadd, 1) := by decide +kernel
theorem dX10_reduce_29 : decode cX10_reduce 29 = .ok (.iconst 0, 1) := by decide +kernel
theorem dX10_reduce_30 : decode cX10_reduce 30 = .ok (.iastore, 1) := by decide +kernel
theorem dX10_reduce_31 : decode cX10_reduce 31 = .ok (.aload_n 0, 1) := by decide +kernel
theorem dX10_reduce_32 : decode cX10_reduce 32 = .ok (.getfield 68, 3) := by decide +kernel
theorem dX10_reduce_35 : decode cX10_reduce 35 = .ok (.sipush 168, 3) := by decide +kernel
theorem dX10_reduce_38 : decode cX10_reduce 38 = .ok (.iload_n 1, 1) := by decide +kernel
theorem dX10_reduce_39 : decode cX10_reduce 39 = .ok (.imul, 1) := by decide +kernel
theorem dX10_reduce_40 : decode cX10_reduce 40 = .ok (.iload_n 2, 1) := by decide +kernel
theorem dX10_reduce_41 : decode cX10_reduce 41 = .ok (.iadd, 1) := by decide +kernel
theorem dX10_reduce_42 : decode cX10_reduce 42 = .ok (.iaload, 1) := by decide +kernel
theorem dX10_reduce_43 : decode cX10_reduce 43 = .ok (.ifCond .le 51, 3) := by decide +kernel
theorem dX10_reduce_46 : decode cX10_reduce 46 = .ok (.aload_n 0, 1) := by decide +kernel
theorem dX10_reduce_47 : decode cX10_reduce 47 = .ok (.iload_n 1, 1) := by decide +kernel
theorem dX10_reduce_48 : decode cX10_reduce 48 = .ok (.aload_n 0, 1) := by decide +kernel
theorem dX10_reduce_49 : decode cX10_reduce 49 = .ok (.getfield 59, 3) := by decide +kernel
theorem dX10_reduce_52 : decode cX10_reduce 52 = .ok (.iload_n 2, 1) := by decide +kernel
theorem dX10_reduce_53 : decode cX10_reduce 53 = .ok (.iaload, 1) := by decide +kernel
theorem dX10_reduce_54 : decode cX10_reduce 54 = .ok (.i2l, 1) := by decide +kernel
theorem dX10_reduce_55 : decode cX10_reduce 55 = .ok (.invokevirtual 222, 3) := by decide +kernel
theorem dX10_reduce_58 : decode cX10_reduce 58 = .ok (.lconst 0, 1) := by decide +kernel
theorem dX10_reduce_59 : decode cX10_reduce 59 = .ok (.lcmp, 1) := by decide +kernel
theorem dX10_reduce_60 : decode cX10_reduce 60 = .ok (.ifCond .ne 34, 3) := by decide +kernel
theorem dX10_reduce_63 : decode cX10_reduce 63 = .ok (.aload_n 0, 1) := by decide +kernel
theorem dX10_reduce_64 : decode cX10_reduce 64 = .ok (.iload_n 1, 1) := by decide +kernel
theorem dX10_reduce_65 : decode cX10_reduce 65 = .ok (.aload_n 0, 1) := by decide +kernel
theorem dX10_reduce_66 : decode cX10_reduce 66 = .ok (.getfield 59, 3) := by decide +kernel
theorem dX10_reduce_69 : decode cX10_reduce 69 = .ok (.iload_n 2, 1) := by decide +kernel
theorem dX10_reduce_70 : decode cX10_reduce 70 = .ok (.iaload, 1) := by decide +kernel
theorem dX10_reduce_71 : decode cX10_reduce 71 = .ok (.i2l, 1) := by decide +kernel
theorem dX10_reduce_72 : decode cX10_reduce 72 = .ok (.invokevirtual 226, 3) := by decide +kernel
theorem dX10_reduce_75 : decode cX10_reduce 75 = .ok (.aload_n 0, 1) := by decide +kernel
theorem dX10_reduce_76 : decode cX10_reduce 76 = .ok (.getfield 68, 3) := by decide +kernel
theorem dX10_reduce_79 : decode cX10_reduce 79 = .ok (.sipush 168, 3) := by decide +kernel
theorem dX10_reduce_82 : decode cX10_reduce 82 = .ok (.iload_n 1, 1) := by decide +kernel
theorem dX10_reduce_83 : decode cX10_reduce 83 = .ok (.imul, 1) := by decide +kernel
theorem dX10_reduce_84 : decode cX10_reduce 84 = .ok (.iload_n 2, 1) := by decide +kernel
theorem dX10_reduce_85 : decode cX10_reduce 85 = .ok (.iadd, 1) := by decide +kernel
theorem dX10_reduce_86 : decode cX10_reduce 86 = .ok (.dup2, 1) := by decide +kernel
theorem dX10_reduce_87 : decode cX10_reduce 87 = .ok (.iaload, 1) := by decide +kernel
theorem dX10_reduce_88 : decode cX10_reduce 88 = .ok (.iconst 1, 1) := by decide +kernel
theorem dX10_reduce_89 : decode cX10_reduce 89 = .ok (.isub, 1) := by decide +kernel
theorem dX10_reduce_90 : decode cX10_reduce 90 = .ok (.iastore, 1) := by decide +kernel
theorem dX10_reduce_91 : decode cX10_reduce 91 = .ok (.goto (-60), 3) := by decide +kernel
theorem dX10_reduce_94 : decode cX10_reduce 94 = .ok (.iinc 2 1, 3) := by decide +kernel
theorem dX10_reduce_97 : decode cX10_reduce 97 = .ok (.goto (-95), 3) := by decide +kernel
theorem dX10_reduce_100 : decode cX10_reduce 100 = .ok (.return_, 1) := by decide +kernel
theorem dX10_part_0 : decode cX10_part 0 = .ok (.lload_n 2, 1) := by decide +kernel
theorem dX10_part_1 : decode cX10_part 1 = .ok (.lconst 0, 1) := by decide +kernel
theorem dX10_part_2 : decode cX10_part 2 = .ok (.lcmp, 1) := by decide +kernel
theorem dX10_part_3 : decode cX10_part 3 = .ok (.ifCond .ne 10, 3) := by decide +kernel
theorem dX10_part_6 : decode cX10_part 6 = .ok (.aload_n 0, 1) := by decide +kernel
theorem dX10_part_7 : decode cX10_part 7 = .ok (.iload_n 1, 1) := by decide +kernel
theorem dX10_part_8 : decode cX10_part 8 = .ok (.lconst 0, 1) := by decide +kernel
theorem dX10_part_9 : decode cX10_part 9 = .ok (.invokevirtual 82, 3) := by decide +kernel
theorem dX10_part_12 : decode cX10_part 12 = .ok (.return_, 1) := by decide +kernel
theorem dX10_part_13 : decode cX10_part 13 = .ok (.aload_n 0, 1) := by decide +kernel
theorem dX10_part_14 : decode cX10_part 14 = .ok (.iload_n 1, 1) := by decide +kernel
theorem dX10_part_15 : decode cX10_part 15 = .ok (.lload_n 2, 1) := by decide +kernel
theorem dX10_part_16 : decode cX10_part 16 = .ok (.invokevirtual 88, 3) := by decide +kernel
theorem dX10_part_19 : decode cX10_part 19 = .ok (.iload 4, 2) := by decide +kernel
theorem dX10_part_21 : decode cX10_part 21 = .ok (.istore 5, 2) := by decide +kernel
theorem dX10_part_23 : decode cX10_part 23 = .ok (.iconst 0, 1) := by decide +kernel
theorem dX10_part_24 : decode cX10_part 24 = .ok (.istore 6, 2) := by decide +kernel
theorem dX10_part_26 : decode cX10_part 26 = .ok (.iload 6, 2) := by decide +kernel
theorem dX10_part_28 : decode cX10_part 28 = .ok (.sipush 168, 3) := by decide +kernel
theorem dX10_part_31 : decode cX10_part 31 = .ok (.if_icmp .ge 60, 3) := by decide +kernel
theorem dX10_part_34 : decode cX10_part 34 = .ok (.iload 5, 2) := by decide +kernel
theorem dX10_part_36 : decode cX10_part 36 = .ok (.iconst 1, 1) := by decide +kernel
theorem dX10_part_37 : decode cX10_part 37 = .ok (.if_icmp .le 54, 3) := by decide +kernel
theorem dX10_part_40 : decode cX10_part 40 = .ok (.iload 5, 2) := by decide +kernel
theorem dX10_part_42 : decode cX10_part 42 = .ok (.aload_n 0, 1) := by decide +kernel
theorem dX10_part_43 : decode cX10_part 43 = .ok (.getfield 59, 3) := by decide +kernel
theorem dX10_part_46 : decode cX10_part 46 = .ok (.iload 6, 2) := by decide +kernel
theorem dX10_part_48 : decode cX10_part 48 = .ok (.iaload, 1) := by decide +kernel
theorem dX10_part_49 : decode cX10_part 49 = .ok (.irem, 1) := by decide +kernel
theorem dX10_part_50 : decode cX10_part 50 = .ok (.ifCond .ne 35, 3) := by decide +kernel
theorem dX10_part_53 : decode cX10_part 53 = .ok (.aload_n 0, 1) := by decide +kernel
theorem dX10_part_54 : decode cX10_part 54 = .ok (.getfield 68, 3) := by decide +kernel
theorem dX10_part_57 : decode cX10_part 57 = .ok (.sipush 168, 3) := by decide +kernel
theorem dX10_part_60 : decode cX10_part 60 = .ok (.iload_n 1, 1) := by decide +kernel
theorem dX10_part_61 : decode cX10_part 61 = .ok (.imul, 1) := by decide +kernel
theorem dX10_part_62 : decode cX10_part 62 = .ok (.iload 6, 2) := by decide +kernel
theorem dX10_part_64 : decode cX10_part 64 = .ok (.iadd, 1) := by decide +kernel
theorem dX10_part_65 : decode cX10_part 65 = .ok (.dup2, 1) := by decide +kernel
theorem dX10_part_66 : decode cX10_part 66 = .ok (.iaload, 1) := by decide +kernel
theorem dX10_part_67 : decode cX10_part 67 = .ok (.iconst 1, 1) := by decide +kernel
theorem dX10_part_68 : decode cX10_part 68 = .ok (.iadd, 1) := by decide +kernel
theorem dX10_part_69 : decode cX10_part 69 = .ok (.iastore, 1) := by decide +kernel
theorem dX10_part_70 : decode cX10_part 70 = .ok (.iload 5, 2) := by decide +kernel
theorem dX10_part_72 : decode cX10_part 72 = .ok (.aload_n 0, 1) := by decide +kernel
theorem dX10_part_73 : decode cX10_part 73 = .ok (.getfield 59, 3) := by decide +kernel
theorem dX10_part_76 : decode cX10_part 76 = .ok (.iload 6, 2) := by decide +kernel
theorem dX10_part_78 : decode cX10_part 78 = .ok (.iaload, 1) := by decide +kernel
theorem dX10_part_79 : decode cX10_part 79 = .ok (.idiv, 1) := by decide +kernel
theorem dX10_part_80 : decode cX10_part 80 = .ok (.istore 5, 2) := by decide +kernel
theorem dX10_part_82 : decode cX10_part 82 = .ok (.goto (-42), 3) := by decide +kernel
theorem dX10_part_85 : decode cX10_part 85 = .ok (.iinc 6 1, 3) := by decide +kernel
theorem dX10_part_88 : decode cX10_part 88 = .ok (.goto (-62), 3) := by decide +kernel
theorem dX10_part_91 : decode cX10_part 91 = .ok (.aload_n 0, 1) := by decide +kernel
theorem dX10_part_92 : decode cX10_part 92 = .ok (.iload_n 1, 1) := by decide +kernel
theorem dX10_part_93 : decode cX10_part 93 = .ok (.invokevirtual 229, 3) := by decide +kernel
theorem dX10_part_96 : decode cX10_part 96 = .ok (.return_, 1) := by decide +kernel
theorem dX10_align_0 : decode cX10_align 0 = .ok (.iconst 0, 1) := by decide +kernel
theorem dX10_align_1 : decode cX10_align 1 = .ok (.istore_n 3, 1) := by decide +kernel
theorem dX10_align_2 : decode cX10_align 2 = .ok (.iload_n 3, 1) := by decide +kernel
theorem dX10_align_3 : decode cX10_align 3 = .ok (.sipush 168, 3) := by decide +kernel
theorem dX10_align_6 : decode cX10_align 6 = .ok (.if_icmp .ge 125, 3) := by decide +kernel
theorem dX10_align_9 : decode cX10_align 9 = .ok (.aload_n 0, 1) := by decide +kernel
theorem dX10_align_10 : decode cX10_align 10 = .ok (.getfield 68, 3) := by decide +kernel
theorem dX10_align_13 : decode cX10_align 13 = .ok (.sipush 168, 3) := by decide +kernel
theorem dX10_align_16 : decode cX10_align 16 = .ok (.iload_n 1, 1) := by decide +kernel
theorem dX10_align_17 : decode cX10_align 17 = .ok (.imul, 1) := by decide +kernel
theorem dX10_align_18 : decode cX10_align 18 = .ok (.iload_n 3, 1) := by decide +kernel
theorem dX10_align_19 : decode cX10_align 19 = .ok (.iadd, 1) := by decide +kernel
theorem dX10_align_20 : decode cX10_align 20 = .ok (.iaload, 1) := by decide +kernel
theorem dX10_align_21 : decode cX10_align 21 = .ok (.aload_n 0, 1) := by decide +kernel
theorem dX10_align_22 : decode cX10_align 22 = .ok (.getfield 68, 3) := by decide +kernel
theorem dX10_align_25 : decode cX10_align 25 = .ok (.sipush 168, 3) := by decide +kernel
theorem dX10_align_28 : decode cX10_align 28 = .ok (.iload_n 2, 1) := by decide +kernel
theorem dX10_align_29 : decode cX10_align 29 = .ok (.imul, 1) := by decide +kernel
theorem dX10_align_30 : decode cX10_align 30 = .ok (.iload_n 3, 1) := by decide +kernel
theorem dX10_align_31 : decode cX10_align 31 = .ok (.iadd, 1) := by decide +kernel
theorem dX10_align_32 : decode cX10_align 32 = .ok (.iaload, 1) := by decide +kernel
theorem dX10_align_33 : decode cX10_align 33 = .ok (.if_icmp .ge 34, 3) := by decide +kernel
theorem dX10_align_36 : decode cX10_align 36 = .ok (.aload_n 0, 1) := by decide +kernel
theorem dX10_align_37 : decode cX10_align 37 = .ok (.iload_n 1, 1) := by decide +kernel
theorem dX10_align_38 : decode cX10_align 38 = .ok (.aload_n 0, 1) := by decide +kernel
theorem dX10_align_39 : decode cX10_align 39 = .ok (.getfield 59, 3) := by decide +kernel
theorem dX10_align_42 : decode cX10_align 42 = .ok (.iload_n 3, 1) := by decide +kernel
theorem dX10_align_43 : decode cX10_align 43 = .ok (.iaload, 1) := by decide +kernel
theorem dX10_align_44 : decode cX10_align 44 = .ok (.i2l, 1) := by decide +kernel
theorem dX10_align_45 : decode cX10_align 45 = .ok (.invokevirtual 88, 3) := by decide +kernel
theorem dX10_align_48 : decode cX10_align 48 = .ok (.aload_n 0, 1) := by decide +kernel
theorem dX10_align_49 : decode cX10_align 49 = .ok (.getfield 68, 3) := by decide +kernel
theorem dX10_align_52 : decode cX10_align 52 = .ok (.sipush 168, 3) := by decide +kernel
theorem dX10_align_55 : decode cX10_align 55 = .ok (.iload_n 1, 1) := by decide +kernel
theorem dX10_align_56 : decode cX10_align 56 = .ok (.imul, 1) := by decide +kernel
theorem dX10_align_57 : decode cX10_align 57 = .ok (.iload_n 3, 1) := by decide +kernel
theorem dX10_align_58 : decode cX10_align 58 = .ok (.iadd, 1) := by decide +kernel
theorem dX10_align_59 : decode cX10_align 59 = .ok (.dup2, 1) := by decide +kernel
theorem dX10_align_60 : decode cX10_align 60 = .ok (.iaload, 1) := by decide +kernel
theorem dX10_align_61 : decode cX10_align 61 = .ok (.iconst 1, 1) := by decide +kernel
theorem dX10_align_62 : decode cX10_align 62 = .ok (.iadd, 1) := by decide +kernel
theorem dX10_align_63 : decode cX10_align 63 = .ok (.iastore, 1) := by decide +kernel
theorem dX10_align_64 : decode cX10_align 64 = .ok (.goto (-55), 3) := by decide +kernel
theorem dX10_align_67 : decode cX10_align 67 = .ok (.aload_n 0, 1) := by decide +kernel
theorem dX10_align_68 : decode cX10_align 68 = .ok (.getfield 68, 3) := by decide +kernel
theorem dX10_align_71 : decode cX10_align 71 = .ok (.sipush 168, 3) := by decide +kernel
theorem dX10_align_74 : decode cX10_align 74 = .ok (.iload_n 2, 1) := by decide +kernel
theorem dX10_align_75 : decode cX10_align 75 = .ok (.imul, 1) := by decide +kernel
theorem dX10_align_76 : decode cX10_align 76 = .ok (.iload_n 3, 1) := by decide +kernel
theorem dX10_align_77 : decode cX10_align 77 = .ok (.iadd, 1) := by decide +kernel
theorem dX10_align_78 : decode cX10_align 78 = .ok (.iaload, 1) := by decide +kernel
theorem dX10_align_79 : decode cX10_align 79 = .ok (.aload_n 0, 1) := by decide +kernel
theorem dX10_align_80 : decode cX10_align 80 = .ok (.getfield 68, 3) := by decide +kernel
theorem dX10_align_83 : decode cX10_align 83 = .ok (.sipush 168, 3) := by decide +kernel
theorem dX10_align_86 : decode cX10_align 86 = .ok (.iload_n 1, 1) := by decide +kernel
theorem dX10_align_87 : decode cX10_align 87 = .ok (.imul, 1) := by decide +kernel
theorem dX10_align_88 : decode cX10_align 88 = .ok (.iload_n 3, 1) := by decide +kernel
theorem dX10_align_89 : decode cX10_align 89 = .ok (.iadd, 1) := by decide +kernel
theorem dX10_align_90 : decode cX10_align 90 = .ok (.iaload, 1) := by decide +kernel
theorem dX10_align_91 : decode cX10_align 91 = .ok (.if_icmp .ge 34, 3) := by decide +kernel
theorem dX10_align_94 : decode cX10_align 94 = .ok (.aload_n 0, 1) := by decide +kernel
theorem dX10_align_95 : decode cX10_align 95 = .ok (.iload_n 2, 1) := by decide +kernel
theorem dX10_align_96 : decode cX10_align 96 = .ok (.aload_n 0, 1) := by decide +kernel
theorem dX10_align_97 : decode cX10_align 97 = .ok (.getfield 59, 3) := by decide +kernel
theorem dX10_align_100 : decode cX10_align 100 = .ok (.iload_n 3, 1) := by decide +kernel
theorem dX10_align_101 : decode cX10_align 101 = .ok (.iaload, 1) := by decide +kernel
theorem dX10_align_102 : decode cX10_align 102 = .ok (.i2l, 1) := by decide +kernel
theorem dX10_align_103 : decode cX10_align 103 = .ok (.invokevirtual 88, 3) := by decide +kernel
theorem dX10_align_106 : decode cX10_align 106 = .ok (.aload_n 0, 1) := by decide +kernel
theorem dX10_align_107 : decode cX10_align 107 = .ok (.getfield 68, 3) := by decide +kernel
theorem dX10_align_110 : decode cX10_align 110 = .ok (.sipush 168, 3) := by decide +kernel
theorem dX10_align_113 : decode cX10_align 113 = .ok (.iload_n 2, 1) := by decide +kernel
theorem dX10_align_114 : decode cX10_align 114 = .ok (.imul, 1) := by decide +kernel
theorem dX10_align_115 : decode cX10_align 115 = .ok (.iload_n 3, 1) := by decide +kernel
theorem dX10_align_116 : decode cX10_align 116 = .ok (.iadd, 1) := by decide +kernel
theorem dX10_align_117 : decode cX10_align 117 = .ok (.dup2, 1) := by decide +kernel
theorem dX10_align_118 : decode cX10_align 118 = .ok (.iaload, 1) := by decide +kernel
theorem dX10_align_119 : decode cX10_align 119 = .ok (.iconst 1, 1) := by decide +kernel
theorem dX10_align_120 : decode cX10_align 120 = .ok (.iadd, 1) := by decide +kernel
theorem dX10_align_121 : decode cX10_align 121 = .ok (.iastore, 1) := by decide +kernel
theorem dX10_align_122 : decode cX10_align 122 = .ok (.goto (-55), 3) := by decide +kernel
theorem dX10_align_125 : decode cX10_align 125 = .ok (.iinc 3 1, 3) := by decide +kernel
theorem dX10_align_128 : decode cX10_align 128 = .ok (.goto (-126), 3) := by decide +kernel
theorem dX10_align_131 : decode cX10_align 131 = .ok (.return_, 1) := by decide +kernel
theorem dX10_add_0 : decode cX10_add 0 = .ok (.aload_n 0, 1) := by decide +kernel
theorem dX10_add_1 : decode cX10_add 1 = .ok (.iload_n 2, 1) := by decide +kernel
theorem dX10_add_2 : decode cX10_add 2 = .ok (.bipush 72, 2) := by decide +kernel
theorem dX10_add_4 : decode cX10_add 4 = .ok (.invokevirtual 232, 3) := by decide +kernel
theorem dX10_add_7 : decode cX10_add 7 = .ok (.aload_n 0, 1) := by decide +kernel
theorem dX10_add_8 : decode cX10_add 8 = .ok (.iload_n 1, 1) := by decide +kernel
theorem dX10_add_9 : decode cX10_add 9 = .ok (.bipush 72, 2) := by decide +kernel
theorem dX10_add_11 : decode cX10_add 11 = .ok (.invokevirtual 236, 3) := by decide +kernel
theorem dX10_add_14 : decode cX10_add 14 = .ok (.aload_n 0, 1) := by decide +kernel
theorem dX10_add_15 : decode cX10_add 15 = .ok (.getfield 65, 3) := by decide +kernel
theorem dX10_add_18 : decode cX10_add 18 = .ok (.iload_n 1, 1) := by decide +kernel
theorem dX10_add_19 : decode cX10_add 19 = .ok (.iaload, 1) := by decide +kernel
theorem dX10_add_20 : decode cX10_add 20 = .ok (.aload_n 0, 1) := by decide +kernel
theorem dX10_add_21 : decode cX10_add 21 = .ok (.getfield 65, 3) := by decide +kernel
theorem dX10_add_24 : decode cX10_add 24 = .ok (.bipush 72, 2) := by decide +kernel
theorem dX10_add_26 : decode cX10_add 26 = .ok (.iaload, 1) := by decide +kernel
theorem dX10_add_27 : decode cX10_add 27 = .ok (.if_icmp .le 12, 3) := by decide +kernel
theorem dX10_add_30 : decode cX10_add 30 = .ok (.aload_n 0, 1) := by decide +kernel
theorem dX10_add_31 : decode cX10_add 31 = .ok (.getfield 65, 3) := by decide +kernel
theorem dX10_add_34 : decode cX10_add 34 = .ok (.iload_n 1, 1) := by decide +kernel
theorem dX10_add_35 : decode cX10_add 35 = .ok (.iaload, 1) := by decide +kernel
theorem dX10_add_36 : decode cX10_add 36 = .ok (.goto 10, 3) := by decide +kernel
theorem dX10_add_39 : decode cX10_add 39 = .ok (.aload_n 0, 1) := by decide +kernel
theorem dX10_add_40 : decode cX10_add 40 = .ok (.getfield 65, 3) := by decide +kernel
theorem dX10_add_43 : decode cX10_add 43 = .ok (.bipush 72, 2) := by decide +kernel
theorem dX10_add_45 : decode cX10_add 45 = .ok (.iaload, 1) := by decide +kernel
theorem dX10_add_46 : decode cX10_add 46 = .ok (.istore_n 3, 1) := by decide +kernel
theorem dX10_add_47 : decode cX10_add 47 = .ok (.lconst 0, 1) := by decide +kernel
theorem dX10_add_48 : decode cX10_add 48 = .ok (.lstore 4, 2) := by decide +kernel
theorem dX10_add_50 : decode cX10_add 50 = .ok (.iconst 0, 1) := by decide +kernel
theorem dX10_add_51 : decode cX10_add 51 = .ok (.istore 6, 2) := by decide +kernel
theorem dX10_add_53 : decode cX10_add 53 = .ok (.iload 6, 2) := by decide +kernel
theorem dX10_add_55 : decode cX10_add 55 = .ok (.iload_n 3, 1) := by decide +kernel
theorem dX10_add_56 : decode cX10_add 56 = .ok (.if_icmp .ge 97, 3) := by decide +kernel
theorem dX10_add_59 : decode cX10_add 59 = .ok (.lload 4, 2) := by decide +kernel
theorem dX10_add_61 : decode cX10_add 61 = .ok (.iload 6, 2) := by decide +kernel
theorem dX10_add_63 : decode cX10_add 63 = .ok (.aload_n 0, 1) := by decide +kernel
theorem dX10_add_64 : decode cX10_add 64 = .ok (.getfield 65, 3) := by decide +kernel
theorem dX10_add_67 : decode cX10_add 67 = .ok (.iload_n 1, 1) := by decide +kernel
theorem dX10_add_68 : decode cX10_add 68 = .ok (.iaload, 1) := by decide +kernel
theorem dX10_add_69 : decode cX10_add 69 = .ok (.if_icmp .ge 19, 3) := by decide +kernel
theorem dX10_add_72 : decode cX10_add 72 = .ok (.aload_n 0, 1) := by decide +kernel
theorem dX10_add_73 : decode cX10_add 73 = .ok (.getfield 62, 3) := by decide +kernel
theorem dX10_add_76 : decode cX10_add 76 = .ok (.sipush 160, 3) := by decide +kernel
theorem dX10_add_79 : decode cX10_add 79 = .ok (.iload_n 1, 1) := by decide +kernel
theorem dX10_add_80 : decode cX10_add 80 = .ok (.imul, 1) := by decide +kernel
theorem dX10_add_81 : decode cX10_add 81 = .ok (.iload 6, 2) := by decide +kernel
theorem dX10_add_83 : decode cX10_add 83 = .ok (.iadd, 1) := by decide +kernel
theorem dX10_add_84 : decode cX10_add 84 = .ok (.laload, 1) := by decide +kernel
theorem dX10_add_85 : decode cX10_add 85 = .ok (.goto 4, 3) := by decide +kernel
theorem dX10_add_88 : decode cX10_add 88 = .ok (.lconst 0, 1) := by decide +kernel
theorem dX10_add_89 : decode cX10_add 89 = .ok (.ladd, 1) := by decide +kernel
theorem dX10_add_90 : decode cX10_add 90 = .ok (.iload 6, 2) := by decide +kernel
theorem dX10_add_92 : decode cX10_add 92 = .ok (.aload_n 0, 1) := by decide +kernel
theorem dX10_add_93 : decode cX10_add 93 = .ok (.getfield 65, 3) := by decide +kernel
theorem dX10_add_96 : decode cX10_add 96 = .ok (.bipush 72, 2) := by decide +kernel
theorem dX10_add_98 : decode cX10_add 98 = .ok (.iaload, 1) := by decide +kernel
theorem dX10_add_99 : decode cX10_add 99 = .ok (.if_icmp .ge 17, 3) := by decide +kernel
theorem dX10_add_102 : decode cX10_add 102 = .ok (.aload_n 0, 1) := by decide +kernel
theorem dX10_add_103 : decode cX10_add 103 = .ok (.getfield 62, 3) := by decide +kernel
theorem dX10_add_106 : decode cX10_add 106 = .ok (.sipush 11520, 3) := by decide +kernel
theorem dX10_add_109 : decode cX10_add 109 = .ok (.iload 6, 2) := by decide +kernel
theorem dX10_add_111 : decode cX10_add 111 = .ok (.iadd, 1) := by decide +kernel
theorem dX10_add_112 : decode cX10_add 112 = .ok (.laload, 1) := by decide +kernel
theorem dX10_add_113 : decode cX10_add 113 = .ok (.goto 4, 3) := by decide +kernel
theorem dX10_add_116 : decode cX10_add 116 = .ok (.lconst 0, 1) := by decide +kernel
theorem dX10_add_117 : decode cX10_add 117 = .ok (.ladd, 1) := by decide +kernel
theorem dX10_add_118 : decode cX10_add 118 = .ok (.lstore 7, 2) := by decide +kernel
theorem dX10_add_120 : decode cX10_add 120 = .ok (.aload_n 0, 1) := by decide +kernel
theorem dX10_add_121 : decode cX10_add 121 = .ok (.getfield 62, 3) := by decide +kernel
theorem dX10_add_124 : decode cX10_add 124 = .ok (.sipush 160, 3) := by decide +kernel
theorem dX10_add_127 : decode cX10_add 127 = .ok (.iload_n 1, 1) := by decide +kernel
theorem dX10_add_128 : decode cX10_add 128 = .ok (.imul, 1) := by decide +kernel
theorem dX10_add_129 : decode cX10_add 129 = .ok (.iload 6, 2) := by decide +kernel
theorem dX10_add_131 : decode cX10_add 131 = .ok (.iadd, 1) := by decide +kernel
theorem dX10_add_132 : decode cX10_add 132 = .ok (.lload 7, 2) := by decide +kernel
theorem dX10_add_134 : decode cX10_add 134 = .ok (.ldc2_w 217, 3) := by decide +kernel
theorem dX10_add_137 : decode cX10_add 137 = .ok (.lrem, 1) := by decide +kernel
theorem dX10_add_138 : decode cX10_add 138 = .ok (.lastore, 1) := by decide +kernel
theorem dX10_add_139 : decode cX10_add 139 = .ok (.lload 7, 2) := by decide +kernel
theorem dX10_add_141 : decode cX10_add 141 = .ok (.ldc2_w 217, 3) := by decide +kernel
theorem dX10_add_144 : decode cX10_add 144 = .ok (.ldiv, 1) := by decide +kernel
theorem dX10_add_145 : decode cX10_add 145 = .ok (.lstore 4, 2) := by decide +kernel
theorem dX10_add_147 : decode cX10_add 147 = .ok (.iinc 6 1, 3) := by decide +kernel
theorem dX10_add_150 : decode cX10_add 150 = .ok (.goto (-97), 3) := by decide +kernel
theorem dX10_add_153 : decode cX10_add 153 = .ok (.aload_n 0, 1) := by decide +kernel
theorem dX10_add_154 : decode cX10_add 154 = .ok (.getfield 62, 3) := by decide +kernel
theorem dX10_add_157 : decode cX10_add 157 = .ok (.sipush 160, 3) := by decide +kernel
theorem dX10_add_160 : decode cX10_add 160 = .ok (.iload_n 1, 1) := by decide +kernel
theorem dX10_add_161 : decode cX10_add 161 = .ok (.imul, 1) := by decide +kernel
theorem dX10_add_162 : decode cX10_add 162 = .ok (.iload_n 3, 1) := by decide +kernel
theorem dX10_add_163 : decode cX10_add 163 = .ok (.iadd, 1) := by decide +kernel
theorem dX10_add_164 : decode cX10_add 164 = .ok (.lload 4, 2) := by decide +kernel
theorem dX10_add_166 : decode cX10_add 166 = .ok (.lastore, 1) := by decide +kernel
theorem dX10_add_167 : decode cX10_add 167 = .ok (.aload_n 0, 1) := by decide +kernel
theorem dX10_add_168 : decode cX10_add 168 = .ok (.getfield 65, 3) := by decide +kernel
theorem dX10_add_171 : decode cX10_add 171 = .ok (.iload_n 1, 1) := by decide +kernel
theorem dX10_add_172 : decode cX10_add 172 = .ok (.iload_n 3, 1) := by decide +kernel
theorem dX10_add_173 : decode cX10_add 173 = .ok (.iconst 1, 1) := by decide +kernel
theorem dX10_add_174 : decode cX10_add 174 = .ok (.iadd, 1) := by decide +kernel
theorem dX10_add_175 : decode cX10_add 175 = .ok (.iastore, 1) := by decide +kernel
theorem dX10_add_176 : decode cX10_add 176 = .ok (.aload_n 0, 1) := by decide +kernel
theorem dX10_add_177 : decode cX10_add 177 = .ok (.iload_n 1, 1) := by decide +kernel
theorem dX10_add_178 : decode cX10_add 178 = .ok (.invokevirtual 219, 3) := by decide +kernel
theorem dX10_add_181 : decode cX10_add 181 = .ok (.aload_n 0, 1) := by decide +kernel
theorem dX10_add_182 : decode cX10_add 182 = .ok (.iload_n 1, 1) := by decide +kernel
theorem dX10_add_183 : decode cX10_add 183 = .ok (.invokevirtual 229, 3) := by decide +kernel
theorem dX10_add_186 : decode cX10_add 186 = .ok (.return_, 1) := by decide +kernel
theorem dX10_take_0 : decode cX10_take 0 = .ok (.aload_n 0, 1) := by decide +kernel
theorem dX10_take_1 : decode cX10_take 1 = .ok (.iload_n 2, 1) := by decide +kernel
theorem dX10_take_2 : decode cX10_take 2 = .ok (.bipush 72, 2) := by decide +kernel
theorem dX10_take_4 : decode cX10_take 4 = .ok (.invokevirtual 232, 3) := by decide +kernel
theorem dX10_take_7 : decode cX10_take 7 = .ok (.aload_n 0, 1) := by decide +kernel
theorem dX10_take_8 : decode cX10_take 8 = .ok (.iload_n 1, 1) := by decide +kernel
theorem dX10_take_9 : decode cX10_take 9 = .ok (.bipush 72, 2) := by decide +kernel
theorem dX10_take_11 : decode cX10_take 11 = .ok (.invokevirtual 236, 3) := by decide +kernel
theorem dX10_take_14 : decode cX10_take 14 = .ok (.lconst 0, 1) := by decide +kernel
theorem dX10_take_15 : decode cX10_take 15 = .ok (.lstore_n 3, 1) := by decide +kernel
theorem dX10_take_16 : decode cX10_take 16 = .ok (.iconst 0, 1) := by decide +kernel
theorem dX10_take_17 : decode cX10_take 17 = .ok (.istore 5, 2) := by decide +kernel
theorem dX10_take_19 : decode cX10_take 19 = .ok (.iload 5, 2) := by decide +kernel
theorem dX10_take_21 : decode cX10_take 21 = .ok (.aload_n 0, 1) := by decide +kernel
theorem dX10_take_22 : decode cX10_take 22 = .ok (.getfield 65, 3) := by decide +kernel
theorem dX10_take_25 : decode cX10_take 25 = .ok (.iload_n 1, 1) := by decide +kernel
theorem dX10_take_26 : decode cX10_take 26 = .ok (.iaload, 1) := by decide +kernel
theorem dX10_take_27 : decode cX10_take 27 = .ok (.if_icmp .ge 98, 3) := by decide +kernel
theorem dX10_take_30 : decode cX10_take 30 = .ok (.aload_n 0, 1) := by decide +kernel
theorem dX10_take_31 : decode cX10_take 31 = .ok (.getfield 62, 3) := by decide +kernel
theorem dX10_take_34 : decode cX10_take 34 = .ok (.sipush 160, 3) := by decide +kernel
theorem dX10_take_37 : decode cX10_take 37 = .ok (.iload_n 1, 1) := by decide +kernel
theorem dX10_take_38 : decode cX10_take 38 = .ok (.imul, 1) := by decide +kernel
theorem dX10_take_39 : decode cX10_take 39 = .ok (.iload 5, 2) := by decide +kernel
theorem dX10_take_41 : decode cX10_take 41 = .ok (.iadd, 1) := by decide +kernel
theorem dX10_take_42 : decode cX10_take 42 = .ok (.laload, 1) := by decide +kernel
theorem dX10_take_43 : decode cX10_take 43 = .ok (.lload_n 3, 1) := by decide +kernel
theorem dX10_take_44 : decode cX10_take 44 = .ok (.lsub, 1) := by decide +kernel
theorem dX10_take_45 : decode cX10_take 45 = .ok (.iload 5, 2) := by decide +kernel
theorem dX10_take_47 : decode cX10_take 47 = .ok (.aload_n 0, 1) := by decide +kernel
theorem dX10_take_48 : decode cX10_take 48 = .ok (.getfield 65, 3) := by decide +kernel
theorem dX10_take_51 : decode cX10_take 51 = .ok (.bipush 72, 2) := by decide +kernel
theorem dX10_take_53 : decode cX10_take 53 = .ok (.iaload, 1) := by decide +kernel
theorem dX10_take_54 : decode cX10_take 54 = .ok (.if_icmp .ge 17, 3) := by decide +kernel
theorem dX10_take_57 : decode cX10_take 57 = .ok (.aload_n 0, 1) := by decide +kernel
theorem dX10_take_58 : decode cX10_take 58 = .ok (.getfield 62, 3) := by decide +kernel
theorem dX10_take_61 : decode cX10_take 61 = .ok (.sipush 11520, 3) := by decide +kernel
theorem dX10_take_64 : decode cX10_take 64 = .ok (.iload 5, 2) := by decide +kernel
theorem dX10_take_66 : decode cX10_take 66 = .ok (.iadd, 1) := by decide +kernel
theorem dX10_take_67 : decode cX10_take 67 = .ok (.laload, 1) := by decide +kernel
theorem dX10_take_68 : decode cX10_take 68 = .ok (.goto 4, 3) := by decide +kernel
theorem dX10_take_71 : decode cX10_take 71 = .ok (.lconst 0, 1) := by decide +kernel
theorem dX10_take_72 : decode cX10_take 72 = .ok (.lsub, 1) := by decide +kernel
theorem dX10_take_73 : decode cX10_take 73 = .ok (.lstore 6, 2) := by decide +kernel
theorem dX10_take_75 : decode cX10_take 75 = .ok (.lload 6, 2) := by decide +kernel
theorem dX10_take_77 : decode cX10_take 77 = .ok (.lconst 0, 1) := by decide +kernel
theorem dX10_take_78 : decode cX10_take 78 = .ok (.lcmp, 1) := by decide +kernel
theorem dX10_take_79 : decode cX10_take 79 = .ok (.ifCond .ge 7, 3) := by decide +kernel
theorem dX10_take_82 : decode cX10_take 82 = .ok (.lconst 1, 1) := by decide +kernel
theorem dX10_take_83 : decode cX10_take 83 = .ok (.goto 4, 3) := by decide +kernel
theorem dX10_take_86 : decode cX10_take 86 = .ok (.lconst 0, 1) := by decide +kernel
theorem dX10_take_87 : decode cX10_take 87 = .ok (.lstore_n 3, 1) := by decide +kernel
theorem dX10_take_88 : decode cX10_take 88 = .ok (.aload_n 0, 1) := by decide +kernel
theorem dX10_take_89 : decode cX10_take 89 = .ok (.getfield 62, 3) := by decide +kernel
theorem dX10_take_92 : decode cX10_take 92 = .ok (.sipush 160, 3) := by decide +kernel
theorem dX10_take_95 : decode cX10_take 95 = .ok (.iload_n 1, 1) := by decide +kernel
theorem dX10_take_96 : decode cX10_take 96 = .ok (.imul, 1) := by decide +kernel
theorem dX10_take_97 : decode cX10_take 97 = .ok (.iload 5, 2) := by decide +kernel
theorem dX10_take_99 : decode cX10_take 99 = .ok (.iadd, 1) := by decide +kernel
theorem dX10_take_100 : decode cX10_take 100 = .ok (.lload 6, 2) := by decide +kernel
theorem dX10_take_102 : decode cX10_take 102 = .ok (.lconst 0, 1) := by decide +kernel
theorem dX10_take_103 : decode cX10_take 103 = .ok (.lcmp, 1) := by decide +kernel
theorem dX10_take_104 : decode cX10_take 104 = .ok (.ifCond .ge 12, 3) := by decide +kernel
theorem dX10_take_107 : decode cX10_take 107 = .ok (.lload 6, 2) := by decide +kernel
theorem dX10_take_109 : decode cX10_take 109 = .ok (.ldc2_w 217, 3) := by decide +kernel
theorem dX10_take_112 : decode cX10_take 112 = .ok (.ladd, 1) := by decide +kernel
theorem dX10_take_113 : decode cX10_take 113 = .ok (.goto 5, 3) := by decide +kernel
theorem dX10_take_116 : decode cX10_take 116 = .ok (.lload 6, 2) := by decide +kernel
theorem dX10_take_118 : decode cX10_take 118 = .ok (.lastore, 1) := by decide +kernel
theorem dX10_take_119 : decode cX10_take 119 = .ok (.iinc 5 1, 3) := by decide +kernel
theorem dX10_take_122 : decode cX10_take 122 = .ok (.goto (-103), 3) := by decide +kernel
theorem dX10_take_125 : decode cX10_take 125 = .ok (.aload_n 0, 1) := by decide +kernel
theorem dX10_take_126 : decode cX10_take 126 = .ok (.iload_n 1, 1) := by decide +kernel
theorem dX10_take_127 : decode cX10_take 127 = .ok (.invokevirtual 219, 3) := by decide +kernel
theorem dX10_take_130 : decode cX10_take 130 = .ok (.aload_n 0, 1) := by decide +kernel
theorem dX10_take_131 : decode cX10_take 131 = .ok (.iload_n 1, 1) := by decide +kernel
theorem dX10_take_132 : decode cX10_take 132 = .ok (.invokevirtual 229, 3) := by decide +kernel
theorem dX10_take_135 : decode cX10_take 135 = .ok (.return_, 1) := by decide +kernel
theorem dX10_compare_0 : decode cX10_compare 0 = .ok (.aload_n 0, 1) := by decide +kernel
theorem dX10_compare_1 : decode cX10_compare 1 = .ok (.getfield 65, 3) := by decide +kernel
theorem dX10_compare_4 : decode cX10_compare 4 = .ok (.iload_n 1, 1) := by decide +kernel
theorem dX10_compare_5 : decode cX10_compare 5 = .ok (.iaload, 1) := by decide +kernel
theorem dX10_compare_6 : decode cX10_compare 6 = .ok (.aload_n 0, 1) := by decide +kernel
theorem dX10_compare_7 : decode cX10_compare 7 = .ok (.getfield 65, 3) := by decide +kernel
theorem dX10_compare_10 : decode cX10_compare 10 = .ok (.iload_n 2, 1) := by decide +kernel
theorem dX10_compare_11 : decode cX10_compare 11 = .ok (.iaload, 1) := by decide +kernel
theorem dX10_compare_12 : decode cX10_compare 12 = .ok (.if_icmp .eq 24, 3) := by decide +kernel
theorem dX10_compare_15 : decode cX10_compare 15 = .ok (.aload_n 0, 1) := by decide +kernel
theorem dX10_compare_16 : decode cX10_compare 16 = .ok (.getfield 65, 3) := by decide +kernel
theorem dX10_compare_19 : decode cX10_compare 19 = .ok (.iload_n 1, 1) := by decide +kernel
theorem dX10_compare_20 : decode cX10_compare 20 = .ok (.iaload, 1) := by decide +kernel
theorem dX10_compare_21 : decode cX10_compare 21 = .ok (.aload_n 0, 1) := by decide +kernel
theorem dX10_compare_22 : decode cX10_compare 22 = .ok (.getfield 65, 3) := by decide +kernel
theorem dX10_compare_25 : decode cX10_compare 25 = .ok (.iload_n 2, 1) := by decide +kernel
theorem dX10_compare_26 : decode cX10_compare 26 = .ok (.iaload, 1) := by decide +kernel
theorem dX10_compare_27 : decode cX10_compare 27 = .ok (.if_icmp .ge 7, 3) := by decide +kernel
theorem dX10_compare_30 : decode cX10_compare 30 = .ok (.iconst (-1), 1) := by decide +kernel
theorem dX10_compare_31 : decode cX10_compare 31 = .ok (.goto 4, 3) := by decide +kernel
theorem dX10_compare_34 : decode cX10_compare 34 = .ok (.iconst 1, 1) := by decide +kernel
theorem dX10_compare_35 : decode cX10_compare 35 = .ok (.ireturn, 1) := by decide +kernel
theorem dX10_compare_36 : decode cX10_compare 36 = .ok (.aload_n 0, 1) := by decide +kernel
theorem dX10_compare_37 : decode cX10_compare 37 = .ok (.getfield 65, 3) := by decide +kernel
theorem dX10_compare_40 : decode cX10_compare 40 = .ok (.iload_n 1, 1) := by decide +kernel
theorem dX10_compare_41 : decode cX10_compare 41 = .ok (.iaload, 1) := by decide +kernel
theorem dX10_compare_42 : decode cX10_compare 42 = .ok (.iconst 1, 1) := by decide +kernel
theorem dX10_compare_43 : decode cX10_compare 43 = .ok (.isub, 1) := by decide +kernel
theorem dX10_compare_44 : decode cX10_compare 44 = .ok (.istore_n 3, 1) := by decide +kernel
theorem dX10_compare_45 : decode cX10_compare 45 = .ok (.iload_n 3, 1) := by decide +kernel
theorem dX10_compare_46 : decode cX10_compare 46 = .ok (.ifCond .lt 59, 3) := by decide +kernel
theorem dX10_compare_49 : decode cX10_compare 49 = .ok (.aload_n 0, 1) := by decide +kernel
theorem dX10_compare_50 : decode cX10_compare 50 = .ok (.getfield 62, 3) := by decide +kernel
theorem dX10_compare_53 : decode cX10_compare 53 = .ok (.sipush 160, 3) := by decide +kernel
theorem dX10_compare_56 : decode cX10_compare 56 = .ok (.iload_n 1, 1) := by decide +kernel
theorem dX10_compare_57 : decode cX10_compare 57 = .ok (.imul, 1) := by decide +kernel
theorem dX10_compare_58 : decode cX10_compare 58 = .ok (.iload_n 3, 1) := by decide +kernel
theorem dX10_compare_59 : decode cX10_compare 59 = .ok (.iadd, 1) := by decide +kernel
theorem dX10_compare_60 : decode cX10_compare 60 = .ok (.laload, 1) := by decide +kernel
theorem dX10_compare_61 : decode cX10_compare 61 = .ok (.lstore 4, 2) := by decide +kernel
theorem dX10_compare_63 : decode cX10_compare 63 = .ok (.aload_n 0, 1) := by decide +kernel
theorem dX10_compare_64 : decode cX10_compare 64 = .ok (.getfield 62, 3) := by decide +kernel
theorem dX10_compare_67 : decode cX10_compare 67 = .ok (.sipush 160, 3) := by decide +kernel
theorem dX10_compare_70 : decode cX10_compare 70 = .ok (.iload_n 2, 1) := by decide +kernel
theorem dX10_compare_71 : decode cX10_compare 71 = .ok (.imul, 1) := by decide +kernel
theorem dX10_compare_72 : decode cX10_compare 72 = .ok (.iload_n 3, 1) := by decide +kernel
theorem dX10_compare_73 : decode cX10_compare 73 = .ok (.iadd, 1) := by decide +kernel
theorem dX10_compare_74 : decode cX10_compare 74 = .ok (.laload, 1) := by decide +kernel
theorem dX10_compare_75 : decode cX10_compare 75 = .ok (.lstore 6, 2) := by decide +kernel
theorem dX10_compare_77 : decode cX10_compare 77 = .ok (.lload 4, 2) := by decide +kernel
theorem dX10_compare_79 : decode cX10_compare 79 = .ok (.lload 6, 2) := by decide +kernel
theorem dX10_compare_81 : decode cX10_compare 81 = .ok (.lcmp, 1) := by decide +kernel
theorem dX10_compare_82 : decode cX10_compare 82 = .ok (.ifCond .eq 17, 3) := by decide +kernel
theorem dX10_compare_85 : decode cX10_compare 85 = .ok (.lload 4, 2) := by decide +kernel
theorem dX10_compare_87 : decode cX10_compare 87 = .ok (.lload 6, 2) := by decide +kernel
theorem dX10_compare_89 : decode cX10_compare 89 = .ok (.lcmp, 1) := by decide +kernel
theorem dX10_compare_90 : decode cX10_compare 90 = .ok (.ifCond .ge 7, 3) := by decide +kernel
theorem dX10_compare_93 : decode cX10_compare 93 = .ok (.iconst (-1), 1) := by decide +kernel
theorem dX10_compare_94 : decode cX10_compare 94 = .ok (.goto 4, 3) := by decide +kernel
theorem dX10_compare_97 : decode cX10_compare 97 = .ok (.iconst 1, 1) := by decide +kernel
theorem dX10_compare_98 : decode cX10_compare 98 = .ok (.ireturn, 1) := by decide +kernel
theorem dX10_compare_99 : decode cX10_compare 99 = .ok (.iinc 3 (-1), 3) := by decide +kernel
theorem dX10_compare_102 : decode cX10_compare 102 = .ok (.goto (-57), 3) := by decide +kernel
theorem dX10_compare_105 : decode cX10_compare 105 = .ok (.iconst 0, 1) := by decide +kernel
theorem dX10_compare_106 : decode cX10_compare 106 = .ok (.ireturn, 1) := by decide +kernel
theorem dX10_below_0 : decode cX10_below 0 = .ok (.aload_n 0, 1) := by decide +kernel
theorem dX10_below_1 : decode cX10_below 1 = .ok (.iload_n 2, 1) := by decide +kernel
theorem dX10_below_2 : decode cX10_below 2 = .ok (.lconst 1, 1) := by decide +kernel
theorem dX10_below_3 : decode cX10_below 3 = .ok (.invokevirtual 82, 3) := by decide +kernel
theorem dX10_below_6 : decode cX10_below 6 = .ok (.iconst 0, 1) := by decide +kernel
theorem dX10_below_7 : decode cX10_below 7 = .ok (.istore_n 3, 1) := by decide +kernel
theorem dX10_below_8 : decode cX10_below 8 = .ok (.iload_n 3, 1) := by decide +kernel
theorem dX10_below_9 : decode cX10_below 9 = .ok (.sipush 168, 3) := by decide +kernel
theorem dX10_below_12 : decode cX10_below 12 = .ok (.if_icmp .ge 47, 3) := by decide +kernel
theorem dX10_below_15 : decode cX10_below 15 = .ok (.iconst 0, 1) := by decide +kernel
theorem dX10_below_16 : decode cX10_below 16 = .ok (.istore 4, 2) := by decide +kernel
theorem dX10_below_18 : decode cX10_below 18 = .ok (.iload 4, 2) := by decide +kernel
theorem dX10_below_20 : decode cX10_below 20 = .ok (.aload_n 0, 1) := by decide +kernel
theorem dX10_below_21 : decode cX10_below 21 = .ok (.getfield 68, 3) := by decide +kernel
theorem dX10_below_24 : decode cX10_below 24 = .ok (.sipush 168, 3) := by decide +kernel
theorem dX10_below_27 : decode cX10_below 27 = .ok (.iload_n 1, 1) := by decide +kernel
theorem dX10_below_28 : decode cX10_below 28 = .ok (.imul, 1) := by decide +kernel
theorem dX10_below_29 : decode cX10_below 29 = .ok (.iload_n 3, 1) := by decide +kernel
theorem dX10_below_30 : decode cX10_below 30 = .ok (.iadd, 1) := by decide +kernel
theorem dX10_below_31 : decode cX10_below 31 = .ok (.iaload, 1) := by decide +kernel
theorem dX10_below_32 : decode cX10_below 32 = .ok (.if_icmp .ge 21, 3) := by decide +kernel
theorem dX10_below_35 : decode cX10_below 35 = .ok (.aload_n 0, 1) := by decide +kernel
theorem dX10_below_36 : decode cX10_below 36 = .ok (.iload_n 2, 1) := by decide +kernel
theorem dX10_below_37 : decode cX10_below 37 = .ok (.aload_n 0, 1) := by decide +kernel
theorem dX10_below_38 : decode cX10_below 38 = .ok (.getfield 59, 3) := by decide +kernel
theorem dX10_below_41 : decode cX10_below 41 = .ok (.iload_n 3, 1) := by decide +kernel
theorem dX10_below_42 : decode cX10_below 42 = .ok (.iaload, 1) := by decide +kernel
theorem dX10_below_43 : decode cX10_below 43 = .ok (.i2l, 1) := by decide +kernel
theorem dX10_below_44 : decode cX10_below 44 = .ok (.invokevirtual 88, 3) := by decide +kernel
theorem dX10_below_47 : decode cX10_below 47 = .ok (.iinc 4 1, 3) := by decide +kernel
theorem dX10_below_50 : decode cX10_below 50 = .ok (.goto (-32), 3) := by decide +kernel
theorem dX10_below_53 : decode cX10_below 53 = .ok (.iinc 3 1, 3) := by decide +kernel
theorem dX10_below_56 : decode cX10_below 56 = .ok (.goto (-48), 3) := by decide +kernel
theorem dX10_below_59 : decode cX10_below 59 = .ok (.return_, 1) := by decide +kernel
theorem dX10_isLong_0 : decode cX10_isLong 0 = .ok (.aload_n 0, 1) := by decide +kernel
theorem dX10_isLong_1 : decode cX10_isLong 1 = .ok (.iload_n 1, 1) := by decide +kernel
theorem dX10_isLong_2 : decode cX10_isLong 2 = .ok (.bipush 73, 2) := by decide +kernel
theorem dX10_isLong_4 : decode cX10_isLong 4 = .ok (.invokevirtual 239, 3) := by decide +kernel
theorem dX10_isLong_7 : decode cX10_isLong 7 = .ok (.aload_n 0, 1) := by decide +kernel
theorem dX10_isLong_8 : decode cX10_isLong 8 = .ok (.iload_n 1, 1) := by decide +kernel
theorem dX10_isLong_9 : decode cX10_isLong 9 = .ok (.bipush 83, 2) := by decide +kernel
theorem dX10_isLong_11 : decode cX10_isLong 11 = .ok (.invokevirtual 242, 3) := by decide +kernel
theorem dX10_isLong_14 : decode cX10_isLong 14 = .ok (.ifCond .ge 14, 3) := by decide +kernel
theorem dX10_isLong_17 : decode cX10_isLong 17 = .ok (.aload_n 0, 1) := by decide +kernel
theorem dX10_isLong_18 : decode cX10_isLong 18 = .ok (.bipush 73, 2) := by decide +kernel
theorem dX10_isLong_20 : decode cX10_isLong 20 = .ok (.bipush 83, 2) := by decide +kernel
theorem dX10_isLong_22 : decode cX10_isLong 22 = .ok (.invokevirtual 242, 3) := by decide +kernel
theorem dX10_isLong_25 : decode cX10_isLong 25 = .ok (.ifCond .lt 7, 3) := by decide +kernel
theorem dX10_isLong_28 : decode cX10_isLong 28 = .ok (.iconst 1, 1) := by decide +kernel
theorem dX10_isLong_29 : decode cX10_isLong 29 = .ok (.goto 4, 3) := by decide +kernel
theorem dX10_isLong_32 : decode cX10_isLong 32 = .ok (.iconst 0, 1) := by decide +kernel
theorem dX10_isLong_33 : decode cX10_isLong 33 = .ok (.ireturn, 1) := by decide +kernel
theorem dX10_digits_0 : decode cX10_digits 0 = .ok (.iload_n 2, 1) := by decide +kernel
theorem dX10_digits_1 : decode cX10_digits 1 = .ok (.bipush 80, 2) := by decide +kernel
theorem dX10_digits_3 : decode cX10_digits 3 = .ok (.if_icmp .ge 75, 3) := by decide +kernel
theorem dX10_digits_6 : decode cX10_digits 6 = .ok (.iconst 2, 1) := by decide +kernel
theorem dX10_digits_7 : decode cX10_digits 7 = .ok (.iload_n 2, 1) := by decide +kernel
theorem dX10_digits_8 : decode cX10_digits 8 = .ok (.imul, 1) := by decide +kernel
theorem dX10_digits_9 : decode cX10_digits 9 = .ok (.iconst 1, 1) := by decide +kernel
theorem dX10_digits_10 : decode cX10_digits 10 = .ok (.iadd, 1) := by decide +kernel
theorem dX10_digits_11 : decode cX10_digits 11 = .ok (.aload_n 0, 1) := by decide +kernel
theorem dX10_digits_12 : decode cX10_digits 12 = .ok (.getfield 65, 3) := by decide +kernel
theorem dX10_digits_15 : decode cX10_digits 15 = .ok (.iload_n 1, 1) := by decide +kernel
theorem dX10_digits_16 : decode cX10_digits 16 = .ok (.iaload, 1) := by decide +kernel
theorem dX10_digits_17 : decode cX10_digits 17 = .ok (.if_icmp .ge 26, 3) := by decide +kernel
theorem dX10_digits_20 : decode cX10_digits 20 = .ok (.aload_n 0, 1) := by decide +kernel
theorem dX10_digits_21 : decode cX10_digits 21 = .ok (.getfield 62, 3) := by decide +kernel
theorem dX10_digits_24 : decode cX10_digits 24 = .ok (.sipush 160, 3) := by decide +kernel
theorem dX10_digits_27 : decode cX10_digits 27 = .ok (.iload_n 1, 1) := by decide +kernel
theorem dX10_digits_28 : decode cX10_digits 28 = .ok (.imul, 1) := by decide +kernel
theorem dX10_digits_29 : decode cX10_digits 29 = .ok (.iconst 2, 1) := by decide +kernel
theorem dX10_digits_30 : decode cX10_digits 30 = .ok (.iload_n 2, 1) := by decide +kernel
theorem dX10_digits_31 : decode cX10_digits 31 = .ok (.imul, 1) := by decide +kernel
theorem dX10_digits_32 : decode cX10_digits 32 = .ok (.iadd, 1) := by decide +kernel
theorem dX10_digits_33 : decode cX10_digits 33 = .ok (.iconst 1, 1) := by decide +kernel
theorem dX10_digits_34 : decode cX10_digits 34 = .ok (.iadd, 1) := by decide +kernel
theorem dX10_digits_35 : decode cX10_digits 35 = .ok (.laload, 1) := by decide +kernel
theorem dX10_digits_36 : decode cX10_digits 36 = .ok (.ldc2_w 217, 3) := by decide +kernel
theorem dX10_digits_39 : decode cX10_digits 39 = .ok (.lmul, 1) := by decide +kernel
theorem dX10_digits_40 : decode cX10_digits 40 = .ok (.goto 4, 3) := by decide +kernel
theorem dX10_digits_43 : decode cX10_digits 43 = .ok (.lconst 0, 1) := by decide +kernel
theorem dX10_digits_44 : decode cX10_digits 44 = .ok (.iconst 2, 1) := by decide +kernel
theorem dX10_digits_45 : decode cX10_digits 45 = .ok (.iload_n 2, 1) := by decide +kernel
theorem dX10_digits_46 : decode cX10_digits 46 = .ok (.imul, 1) := by decide +kernel
theorem dX10_digits_47 : decode cX10_digits 47 = .ok (.aload_n 0, 1) := by decide +kernel
theorem dX10_digits_48 : decode cX10_digits 48 = .ok (.getfield 65, 3) := by decide +kernel
theorem dX10_digits_51 : decode cX10_digits 51 = .ok (.iload_n 1, 1) := by decide +kernel
theorem dX10_digits_52 : decode cX10_digits 52 = .ok (.iaload, 1) := by decide +kernel
theorem dX10_digits_53 : decode cX10_digits 53 = .ok (.if_icmp .ge 20, 3) := by decide +kernel
theorem dX10_digits_56 : decode cX10_digits 56 = .ok (.aload_n 0, 1) := by decide +kernel
theorem dX10_digits_57 : decode cX10_digits 57 = .ok (.getfield 62, 3) := by decide +kernel
theorem dX10_digits_60 : decode cX10_digits 60 = .ok (.sipush 160, 3) := by decide +kernel
theorem dX10_digits_63 : decode cX10_digits 63 = .ok (.iload_n 1, 1) := by decide +kernel
theorem dX10_digits_64 : decode cX10_digits 64 = .ok (.imul, 1) := by decide +kernel
theorem dX10_digits_65 : decode cX10_digits 65 = .ok (.iconst 2, 1) := by decide +kernel
theorem dX10_digits_66 : decode cX10_digits 66 = .ok (.iload_n 2, 1) := by decide +kernel
theorem dX10_digits_67 : decode cX10_digits 67 = .ok (.imul, 1) := by decide +kernel
theorem dX10_digits_68 : decode cX10_digits 68 = .ok (.iadd, 1) := by decide +kernel
theorem dX10_digits_69 : decode cX10_digits 69 = .ok (.laload, 1) := by decide +kernel
theorem dX10_digits_70 : decode cX10_digits 70 = .ok (.goto 4, 3) := by decide +kernel
theorem dX10_digits_73 : decode cX10_digits 73 = .ok (.lconst 0, 1) := by decide +kernel
theorem dX10_digits_74 : decode cX10_digits 74 = .ok (.ladd, 1) := by decide +kernel
theorem dX10_digits_75 : decode cX10_digits 75 = .ok (.goto 4, 3) := by decide +kernel
theorem dX10_digits_78 : decode cX10_digits 78 = .ok (.lconst 0, 1) := by decide +kernel
theorem dX10_digits_79 : decode cX10_digits 79 = .ok (.lreturn, 1) := by decide +kernel
theorem dX10_partOf_0 : decode cX10_partOf 0 = .ok (.iload_n 2, 1) := by decide +kernel
theorem dX10_partOf_1 : decode cX10_partOf 1 = .ok (.ifCond .ge 5, 3) := by decide +kernel
theorem dX10_partOf_4 : decode cX10_partOf 4 = .ok (.lconst 0, 1) := by decide +kernel
theorem dX10_partOf_5 : decode cX10_partOf 5 = .ok (.lreturn, 1) := by decide +kernel
theorem dX10_partOf_6 : decode cX10_partOf 6 = .ok (.aload_n 0, 1) := by decide +kernel
theorem dX10_partOf_7 : decode cX10_partOf 7 = .ok (.iload_n 1, 1) := by decide +kernel
theorem dX10_partOf_8 : decode cX10_partOf 8 = .ok (.bipush 73, 2) := by decide +kernel
theorem dX10_partOf_10 : decode cX10_partOf 10 = .ok (.invokevirtual 239, 3) := by decide +kernel
theorem dX10_partOf_13 : decode cX10_partOf 13 = .ok (.aload_n 0, 1) := by decide +kernel
theorem dX10_partOf_14 : decode cX10_partOf 14 = .ok (.iload_n 2, 1) := by decide +kernel
theorem dX10_partOf_15 : decode cX10_partOf 15 = .ok (.iconst 2, 1) := by decide +kernel
theorem dX10_partOf_16 : decode cX10_partOf 16 = .ok (.irem, 1) := by decide +kernel
theorem dX10_partOf_17 : decode cX10_partOf 17 = .ok (.ifCond .ne 7, 3) := by decide +kernel
theorem dX10_partOf_20 : decode cX10_partOf 20 = .ok (.iload_n 1, 1) := by decide +kernel
theorem dX10_partOf_21 : decode cX10_partOf 21 = .ok (.goto 5, 3) := by decide +kernel
theorem dX10_partOf_24 : decode cX10_partOf 24 = .ok (.bipush 73, 2) := by decide +kernel
theorem dX10_partOf_26 : decode cX10_partOf 26 = .ok (.iload_n 2, 1) := by decide +kernel
theorem dX10_partOf_27 : decode cX10_partOf 27 = .ok (.iconst 2, 1) := by decide +kernel
theorem dX10_partOf_28 : decode cX10_partOf 28 = .ok (.idiv, 1) := by decide +kernel
theorem dX10_partOf_29 : decode cX10_partOf 29 = .ok (.invokevirtual 245, 3) := by decide +kernel
theorem dX10_partOf_32 : decode cX10_partOf 32 = .ok (.lreturn, 1) := by decide +kernel
set_option maxRecDepth 20000 in
theorem v_X10_set_0 {g : xG} {Q : mQ} {s : MV} {x0 : Nat} {x1 : Nat} {x2 : Nat} (V : BlkM g M_X10_set x0 Q 3 [(0, .ref x0), (1, .int (nI x1)), (2, .long (lN x2)), (4, .int (nI 0))] [] s) : BlkM g M_X10_set x0 Q 0 [(0, .ref x0), (1, .int (nI x1)), (2, .long (lN x2))] [] s := by
  intro h0 h nx HO HM
  refine r_iconst (v := (nI 0)) dX10_set_0 rfl ?_
  refine r_istore (L' := [(4, .int (nI 0)), (0, .ref x0), (1, .int (nI x1)), (2, .long (lN x2))]) dX10_set_1 (by decide) rfl ?_
  exact Blk.sub [1, 2, 3, 0] rfl (V _ _ _ HO HM)
set_option maxRecDepth 20000 in
theorem v_X10_set_3 {g : xG} {Q : mQ} {s : MV} {x0 : Nat} {x1 : Nat} {x2 : Nat} {x4 : Nat} (V : ((x4 < 2 ^ 31 ∧ 160 < 2 ^ 31) ∧ ((160 ≤ x4 → BlkM g M_X10_set x0 Q 34 [(0, .ref x0), (1, .int (nI x1)), (2, .long (lN x2)), (4, .int (nI 0))] [] s) ∧ (x4 < 160 → (((160 * x1) + x4) < 13440 ∧ BlkM g M_X10_set x0 Q 3 [(0, .ref x0), (1, .int (nI x1)), (2, .long (lN x2)), (4, .int (nI (x4 + 1)))] [] (MV.u_lb s (va_up s.lb ((160 * x1) + x4) 0))))))) : BlkM g M_X10_set x0 Q 3 [(0, .ref x0), (1, .int (nI x1)), (2, .long (lN x2)), (4, .int (nI x4))] [] s := by
  intro h0 h nx HO HM
  refine r_iload 3 dX10_set_3 rfl ?_
  refine r_sipush (v := (nI 160)) dX10_set_5 rfl ?_
  obtain ⟨c, V⟩ := V
  refine r_icmp_geN (tgt := 31) dX10_set_8 (by decide) c (fun c => ?_) (fun c => ?_)
  · have V := V.1 c
    refine r_iconst (v := (nI 0)) dX10_set_31 rfl ?_
    refine r_istore (L' := [(4, .int (nI 0)), (0, .ref x0), (1, .int (nI x1)), (2, .long (lN x2))]) dX10_set_32 (by decide) rfl ?_
    exact Blk.sub [1, 2, 3, 0] rfl (V _ _ _ HO HM)
  · have V := V.2 c
    refine r_aload_n 0 dX10_set_11 rfl rfl ?_
    refine r_getf (ci := 11) (kf := 27) (T := TX10) rfl in_X10 (by decide) wF_X10_62 dX10_set_12 (MAt.o_ HM) rfl ?_
    refine r_sipush (v := (nI 160)) dX10_set_15 rfl ?_
    refine r_iload_n 1 dX10_set_18 rfl rfl ?_
    refine r_imulN dX10_set_19 ?_
    refine r_iload 3 dX10_set_20 rfl ?_
    refine r_iaddN dX10_set_22 ?_
    refine r_lconst (v := (lN 0)) dX10_set_23 rfl ?_
    obtain ⟨c, V⟩ := V
    refine r_lastN dX10_set_24 (MAt.g_lb HM) c (by decide) ?_
    obtain ⟨hu1, eu1, HMu1, HOu1⟩ := mo_lb HM HO (va_up s.lb ((160 * x1) + x4) 0)
    refine Blk.eqs ?_ rfl rfl eu1
    replace HMu1 : MAt hu1 x0 (MV.u_lb s (va_up s.lb ((160 * x1) + x4) 0)) := HMu1
    show Blk g M_X10_set (pM x0 h0 nx Q) 25 [(0, .ref x0), (1, .int (nI x1)), (2, .long (lN x2)), (4, .int (nI x4))] [] hu1 nx 0 0
    refine r_iincN 3 (b := 1) (L' := [(4, .int (nI (x4 + 1))), (0, .ref x0), (1, .int (nI x1)), (2, .long (lN x2))]) dX10_set_25 rfl rfl (by decide) rfl ?_
    refine r_goto (tgt := 3) dX10_set_28 (by decide) ?_
    exact Blk.sub [1, 2, 3, 0] rfl (V _ _ _ HOu1 HMu1)
set_option maxRecDepth 20000 in
theorem v_X10_set_34 {g : xG} {Q : mQ} {s : MV} {x0 : Nat} {x1 : Nat} {x2 : Nat} {x4 : Nat} (V : ((x4 < 2 ^ 31 ∧ 168 < 2 ^ 31) ∧ ((168 ≤ x4 → ((160 * x1) < 13440 ∧ ((x2 < 2 ^ 63 ∧ 0 < 2 ^ 63) ∧ ((¬ x2 = 0 → (x1 < 84 ∧ (Q none (MV.u_ln (MV.u_lb s (va_up s.lb (160 * x1) x2)) (va_up s.ln x1 1))))) ∧ (x2 = 0 → (x1 < 84 ∧ (Q none (MV.u_ln (MV.u_lb s (va_up s.lb (160 * x1) x2)) (va_up s.ln x1 0))))))))) ∧ (x4 < 168 → (((168 * x1) + x4) < 14112 ∧ BlkM g M_X10_set x0 Q 34 [(0, .ref x0), (1, .int (nI x1)), (2, .long (lN x2)), (4, .int (nI (x4 + 1)))] [] (MV.u_pw s (va_up s.pw ((168 * x1) + x4) 0))))))) : BlkM g M_X10_set x0 Q 34 [(0, .ref x0), (1, .int (nI x1)), (2, .long (lN x2)), (4, .int (nI x4))] [] s := by
  intro h0 h nx HO HM
  refine r_iload 3 dX10_set_34 rfl ?_
  refine r_sipush (v := (nI 168)) dX10_set_36 rfl ?_
  obtain ⟨c, V⟩ := V
  refine r_icmp_geN (tgt := 62) dX10_set_39 (by decide) c (fun c => ?_) (fun c => ?_)
  · have V := V.1 c
    refine r_aload_n 0 dX10_set_62 rfl rfl ?_
    refine r_getf (ci := 11) (kf := 27) (T := TX10) rfl in_X10 (by decide) wF_X10_62 dX10_set_63 (MAt.o_ HM) rfl ?_
    refine r_sipush (v := (nI 160)) dX10_set_66 rfl ?_
    refine r_iload_n 1 dX10_set_69 rfl rfl ?_
    refine r_imulN dX10_set_70 ?_
    refine r_lload_n 2 dX10_set_71 rfl rfl ?_
    obtain ⟨c, V⟩ := V
    refine r_lastN dX10_set_72 (MAt.g_lb HM) c (by decide) ?_
    obtain ⟨hu1, eu1, HMu1, HOu1⟩ := mo_lb HM HO (va_up s.lb (160 * x1) x2)
    refine Blk.eqs ?_ rfl rfl eu1
    replace HMu1 : MAt hu1 x0 (MV.u_lb s (va_up s.lb (160 * x1) x2)) := HMu1
    show Blk g M_X10_set (pM x0 h0 nx Q) 73 [(0, .ref x0), (1, .int (nI x1)), (2, .long (lN x2)), (4, .int (nI x4))] [] hu1 nx 0 0
    refine r_aload_n 0 dX10_set_73 rfl rfl ?_
    refine r_getf (ci := 11) (kf := 28) (T := TX10) rfl in_X10 (by decide) wF_X10_65 dX10_set_74 (MAt.o_ HMu1) rfl ?_
    show Blk g M_X10_set (pM x0 h0 nx Q) 77 [(0, .ref x0), (1, .int (nI x1)), (2, .long (lN x2)), (4, .int (nI x4))] [.ref (x0 + 19)] hu1 nx 0 0
    refine r_iload_n 1 dX10_set_77 rfl rfl ?_
    refine r_lload_n 2 dX10_set_78 rfl rfl ?_
    refine r_lconst (v := (lN 0)) dX10_set_79 rfl ?_
    obtain ⟨c, V⟩ := V
    refine r_lif_ne (tgt := 88) dX10_set_80 dX10_set_81 (by decide) c (fun c => ?_) (fun c => ?_)
    · have V := V.1 c
      refine r_iconst (v := (nI 1)) dX10_set_88 rfl ?_
      obtain ⟨c, V⟩ := V
      refine r_iastN dX10_set_89 (MAt.g_ln HMu1) c (by decide) ?_
      obtain ⟨hu2, eu2, HMu2, HOu2⟩ := mo_ln HMu1 HOu1 (va_up s.ln x1 1)
      refine Blk.eqs ?_ rfl rfl eu2
      replace HMu2 : MAt hu2 x0 (MV.u_ln (MV.u_lb s (va_up s.lb (160 * x1) x2)) (va_up s.ln x1 1)) := HMu2
      show Blk g M_X10_set (pM x0 h0 nx Q) 90 [(0, .ref x0), (1, .int (nI x1)), (2, .long (lN x2)), (4, .int (nI x4))] [] hu2 nx 0 0
      exact r_vret dX10_set_90 rfl (by decide) (by decide) ⟨rfl, HOu2, _, HMu2, V⟩
    · have V := V.2 c
      refine r_iconst (v := (nI 0)) dX10_set_84 rfl ?_
      refine r_goto (tgt := 89) dX10_set_85 (by decide) ?_
      obtain ⟨c, V⟩ := V
      refine r_iastN dX10_set_89 (MAt.g_ln HMu1) c (by decide) ?_
      obtain ⟨hu3, eu3, HMu3, HOu3⟩ := mo_ln HMu1 HOu1 (va_up s.ln x1 0)
      refine Blk.eqs ?_ rfl rfl eu3
      replace HMu3 : MAt hu3 x0 (MV.u_ln (MV.u_lb s (va_up s.lb (160 * x1) x2)) (va_up s.ln x1 0)) := HMu3
      show Blk g M_X10_set (pM x0 h0 nx Q) 90 [(0, .ref x0), (1, .int (nI x1)), (2, .long (lN x2)), (4, .int (nI x4))] [] hu3 nx 0 0
      exact r_vret dX10_set_90 rfl (by decide) (by decide) ⟨rfl, HOu3, _, HMu3, V⟩
  · have V := V.2 c
    refine r_aload_n 0 dX10_set_42 rfl rfl ?_
    refine r_getf (ci := 11) (kf := 29) (T := TX10) rfl in_X10 (by decide) wF_X10_68 dX10_set_43 (MAt.o_ HM) rfl ?_
    refine r_sipush (v := (nI 168)) dX10_set_46 rfl ?_
    refine r_iload_n 1 dX10_set_49 rfl rfl ?_
    refine r_imulN dX10_set_50 ?_
    refine r_iload 3 dX10_set_51 rfl ?_
    refine r_iaddN dX10_set_53 ?_
    refine r_iconst (v := (nI 0)) dX10_set_54 rfl ?_
    obtain ⟨c, V⟩ := V
    refine r_iastN dX10_set_55 (MAt.g_pw HM) c (by decide) ?_
    obtain ⟨hu4, eu4, HMu4, HOu4⟩ := mo_pw HM HO (va_up s.pw ((168 * x1) + x4) 0)
    refine Blk.eqs ?_ rfl rfl eu4
    replace HMu4 : MAt hu4 x0 (MV.u_pw s (va_up s.pw ((168 * x1) + x4) 0)) := HMu4
    show Blk g M_X10_set (pM x0 h0 nx Q) 56 [(0, .ref x0), (1, .int (nI x1)), (2, .long (lN x2)), (4, .int (nI x4))] [] hu4 nx 0 0
    refine r_iincN 3 (b := 1) (L' := [(4, .int (nI (x4 + 1))), (0, .ref x0), (1, .int (nI x1)), (2, .long (lN x2))]) dX10_set_56 rfl rfl (by decide) rfl ?_
    refine r_goto (tgt := 34) dX10_set_59 (by decide) ?_
    exact Blk.sub [1, 2, 3, 0] rfl (V _ _ _ HOu4 HMu4)
set_option maxRecDepth 20000 in
theorem v_X10_copy_0 {g : xG} {Q : mQ} {s : MV} {x0 : Nat} {x1 : Nat} {x2 : Nat} (V : BlkM g M_X10_copy x0 Q 2 [(0, .ref x0), (1, .int (nI x1)), (2, .int (nI x2)), (3, .int (nI 0))] [] s) : BlkM g M_X10_copy x0 Q 0 [(0, .ref x0), (1, .int (nI x1)), (2, .int (nI x2))] [] s := by
  intro h0 h nx HO HM
  refine r_iconst (v := (nI 0)) dX10_copy_0 rfl ?_
  refine r_istore_n (L' := [(3, .int (nI 0)), (0, .ref x0), (1, .int (nI x1)), (2, .int (nI x2))]) dX10_copy_1 rfl (by decide) rfl ?_
  exact Blk.sub [1, 2, 3, 0] rfl (V _ _ _ HO HM)
set_option maxRecDepth 20000 in
theorem v_X10_copy_2 {g : xG} {Q : mQ} {s : MV} {x0 : Nat} {x1 : Nat} {x2 : Nat} {x3 : Nat} (V : ((x3 < 2 ^ 31 ∧ 160 < 2 ^ 31) ∧ ((160 ≤ x3 → BlkM g M_X10_copy x0 Q 41 [(0, .ref x0), (1, .int (nI x1)), (2, .int (nI x2)), (3, .int (nI 0))] [] s) ∧ (x3 < 160 → (((160 * x1) + x3) < 13440 ∧ (((160 * x2) + x3) < 13440 ∧ BlkM g M_X10_copy x0 Q 2 [(0, .ref x0), (1, .int (nI x1)), (2, .int (nI x2)), (3, .int (nI (x3 + 1)))] [] (MV.u_lb s (va_up s.lb ((160 * x2) + x3) (s.lb ((160 * x1) + x3)))))))))) : BlkM g M_X10_copy x0 Q 2 [(0, .ref x0), (1, .int (nI x1)), (2, .int (nI x2)), (3, .int (nI x3))] [] s := by
  intro h0 h nx HO HM
  refine r_iload_n 3 dX10_copy_2 rfl rfl ?_
  refine r_sipush (v := (nI 160)) dX10_copy_3 rfl ?_
  obtain ⟨c, V⟩ := V
  refine r_icmp_geN (tgt := 39) dX10_copy_6 (by decide) c (fun c => ?_) (fun c => ?_)
  · have V := V.1 c
    refine r_iconst (v := (nI 0)) dX10_copy_39 rfl ?_
    refine r_istore_n (L' := [(3, .int (nI 0)), (0, .ref x0), (1, .int (nI x1)), (2, .int (nI x2))]) dX10_copy_40 rfl (by decide) rfl ?_
    exact Blk.sub [1, 2, 3, 0] rfl (V _ _ _ HO HM)
  · have V := V.2 c
    refine r_aload_n 0 dX10_copy_9 rfl rfl ?_
    refine r_getf (ci := 11) (kf := 27) (T := TX10) rfl in_X10 (by decide) wF_X10_62 dX10_copy_10 (MAt.o_ HM) rfl ?_
    refine r_sipush (v := (nI 160)) dX10_copy_13 rfl ?_
    refine r_iload_n 2 dX10_copy_16 rfl rfl ?_
    refine r_imulN dX10_copy_17 ?_
    refine r_iload_n 3 dX10_copy_18 rfl rfl ?_
    refine r_iaddN dX10_copy_19 ?_
    refine r_aload_n 0 dX10_copy_20 rfl rfl ?_
    refine r_getf (ci := 11) (kf := 27) (T := TX10) rfl in_X10 (by decide) wF_X10_62 dX10_copy_21 (MAt.o_ HM) rfl ?_
    refine r_sipush (v := (nI 160)) dX10_copy_24 rfl ?_
    refine r_iload_n 1 dX10_copy_27 rfl rfl ?_
    refine r_imulN dX10_copy_28 ?_
    refine r_iload_n 3 dX10_copy_29 rfl rfl ?_
    refine r_iaddN dX10_copy_30 ?_
    obtain ⟨c, V⟩ := V
    refine r_lald dX10_copy_31 (MAt.g_lb HM) rfl c (by decide) ?_
    show Blk g M_X10_copy (pM x0 h0 nx Q) 32 [(0, .ref x0), (1, .int (nI x1)), (2, .int (nI x2)), (3, .int (nI x3))] [.long (lN (s.lb ((160 * x1) + x3))), .int (nI ((160 * x2) + x3)), .ref (x0 + 18)] h nx 0 0
    obtain ⟨c, V⟩ := V
    refine r_lastN dX10_copy_32 (MAt.g_lb HM) c (by decide) ?_
    obtain ⟨hu1, eu1, HMu1, HOu1⟩ := mo_lb HM HO (va_up s.lb ((160 * x2) + x3) (s.lb ((160 * x1) + x3)))
    refine Blk.eqs ?_ rfl rfl eu1
    replace HMu1 : MAt hu1 x0 (MV.u_lb s (va_up s.lb ((160 * x2) + x3) (s.lb ((160 * x1) + x3)))) := HMu1
    show Blk g M_X10_copy (pM x0 h0 nx Q) 33 [(0, .ref x0), (1, .int (nI x1)), (2, .int (nI x2)), (3, .int (nI x3))] [] hu1 nx 0 0
    refine r_iincN 3 (b := 1) (L' := [(3, .int (nI (x3 + 1))), (0, .ref x0), (1, .int (nI x1)), (2, .int (nI x2))]) dX10_copy_33 rfl rfl (by decide) rfl ?_
    refine r_goto (tgt := 2) dX10_copy_36 (by decide) ?_
    exact Blk.sub [1, 2, 3, 0] rfl (V _ _ _ HOu1 HMu1)
set_option maxRecDepth 20000 in
theorem v_X10_copy_41 {g : xG} {Q : mQ} {s : MV} {x0 : Nat} {x1 : Nat} {x2 : Nat} {x3 : Nat} (V : ((x3 < 2 ^ 31 ∧ 168 < 2 ^ 31) ∧ ((168 ≤ x3 → (x1 < 84 ∧ (x2 < 84 ∧ (Q none (MV.u_ln s (va_up s.ln x2 (s.ln x1))))))) ∧ (x3 < 168 → (((168 * x1) + x3) < 14112 ∧ (((168 * x2) + x3) < 14112 ∧ BlkM g M_X10_copy x0 Q 41 [(0, .ref x0), (1, .int (nI x1)), (2, .int (nI x2)), (3, .int (nI (x3 + 1)))] [] (MV.u_pw s (va_up s.pw ((168 * x2) + x3) (s.pw ((168 * x1) + x3)))))))))) : BlkM g M_X10_copy x0 Q 41 [(0, .ref x0), (1, .int (nI x1)), (2, .int (nI x2)), (3, .int (nI x3))] [] s := by
  intro h0 h nx HO HM
  refine r_iload_n 3 dX10_copy_41 rfl rfl ?_
  refine r_sipush (v := (nI 168)) dX10_copy_42 rfl ?_
  obtain ⟨c, V⟩ := V
  refine r_icmp_geN (tgt := 78) dX10_copy_45 (by decide) c (fun c => ?_) (fun c => ?_)
  · have V := V.1 c
    refine r_aload_n 0 dX10_copy_78 rfl rfl ?_
    refine r_getf (ci := 11) (kf := 28) (T := TX10) rfl in_X10 (by decide) wF_X10_65 dX10_copy_79 (MAt.o_ HM) rfl ?_
    refine r_iload_n 2 dX10_copy_82 rfl rfl ?_
    refine r_aload_n 0 dX10_copy_83 rfl rfl ?_
    refine r_getf (ci := 11) (kf := 28) (T := TX10) rfl in_X10 (by decide) wF_X10_65 dX10_copy_84 (MAt.o_ HM) rfl ?_
    refine r_iload_n 1 dX10_copy_87 rfl rfl ?_
    obtain ⟨c, V⟩ := V
    refine r_iald dX10_copy_88 (MAt.g_ln HM) rfl c (by decide) ?_
    show Blk g M_X10_copy (pM x0 h0 nx Q) 89 [(0, .ref x0), (1, .int (nI x1)), (2, .int (nI x2)), (3, .int (nI x3))] [.int (nI (s.ln x1)), .int (nI x2), .ref (x0 + 19)] h nx 0 0
    obtain ⟨c, V⟩ := V
    refine r_iastN dX10_copy_89 (MAt.g_ln HM) c (by decide) ?_
    obtain ⟨hu1, eu1, HMu1, HOu1⟩ := mo_ln HM HO (va_up s.ln x2 (s.ln x1))
    refine Blk.eqs ?_ rfl rfl eu1
    replace HMu1 : MAt hu1 x0 (MV.u_ln s (va_up s.ln x2 (s.ln x1))) := HMu1
    show Blk g M_X10_copy (pM x0 h0 nx Q) 90 [(0, .ref x0), (1, .int (nI x1)), (2, .int (nI x2)), (3, .int (nI x3))] [] hu1 nx 0 0
    exact r_vret dX10_copy_90 rfl (by decide) (by decide) ⟨rfl, HOu1, _, HMu1, V⟩
  · have V := V.2 c
    refine r_aload_n 0 dX10_copy_48 rfl rfl ?_
    refine r_getf (ci := 11) (kf := 29) (T := TX10) rfl in_X10 (by decide) wF_X10_68 dX10_copy_49 (MAt.o_ HM) rfl ?_
    refine r_sipush (v := (nI 168)) dX10_copy_52 rfl ?_
    refine r_iload_n 2 dX10_copy_55 rfl rfl ?_
    refine r_imulN dX10_copy_56 ?_
    refine r_iload_n 3 dX10_copy_57 rfl rfl ?_
    refine r_iaddN dX10_copy_58 ?_
    refine r_aload_n 0 dX10_copy_59 rfl rfl ?_
    refine r_getf (ci := 11) (kf := 29) (T := TX10) rfl in_X10 (by decide) wF_X10_68 dX10_copy_60 (MAt.o_ HM) rfl ?_
    refine r_sipush (v := (nI 168)) dX10_copy_63 rfl ?_
    refine r_iload_n 1 dX10_copy_66 rfl rfl ?_
    refine r_imulN dX10_copy_67 ?_
    refine r_iload_n 3 dX10_copy_68 rfl rfl ?_
    refine r_iaddN dX10_copy_69 ?_
    obtain ⟨c, V⟩ := V
    refine r_iald dX10_copy_70 (MAt.g_pw HM) rfl c (by decide) ?_
    show Blk g M_X10_copy (pM x0 h0 nx Q) 71 [(0, .ref x0), (1, .int (nI x1)), (2, .int (nI x2)), (3, .int (nI x3))] [.int (nI (s.pw ((168 * x1) + x3))), .int (nI ((168 * x2) + x3)), .ref (x0 + 20)] h nx 0 0
    obtain ⟨c, V⟩ := V
    refine r_iastN dX10_copy_71 (MAt.g_pw HM) c (by decide) ?_
    obtain ⟨hu2, eu2, HMu2, HOu2⟩ := mo_pw HM HO (va_up s.pw ((168 * x2) + x3) (s.pw ((168 * x1) + x3)))
    refine Blk.eqs ?_ rfl rfl eu2
    replace HMu2 : MAt hu2 x0 (MV.u_pw s (va_up s.pw ((168 * x2) + x3) (s.pw ((168 * x1) + x3)))) := HMu2
    show Blk g M_X10_copy (pM x0 h0 nx Q) 72 [(0, .ref x0), (1, .int (nI x1)), (2, .int (nI x2)), (3, .int (nI x3))] [] hu2 nx 0 0
    refine r_iincN 3 (b := 1) (L' := [(3, .int (nI (x3 + 1))), (0, .ref x0), (1, .int (nI x1)), (2, .int (nI x2))]) dX10_copy_72 rfl rfl (by decide) rfl ?_
    refine r_goto (tgt := 41) dX10_copy_75 (by decide) ?_
    exact Blk.sub [1, 2, 3, 0] rfl (V _ _ _ HOu2 HMu2)
set_option maxRecDepth 20000 in
theorem v_X10_times_0 {g : xG} {Q : mQ} {s : MV} {x0 : Nat} {x1 : Nat} {x2 : Nat} (V : (x1 < 84 ∧ BlkM g M_X10_times x0 Q 14 [(0, .ref x0), (1, .int (nI x1)), (2, .long (lN x2)), (4, .long (lN 0)), (6, .int (nI (s.ln x1))), (7, .int (nI 0))] [] s)) : BlkM g M_X10_times x0 Q 0 [(0, .ref x0), (1, .int (nI x1)), (2, .long (lN x2))] [] s := by
  intro h0 h nx HO HM
  refine r_lconst (v := (lN 0)) dX10_times_0 rfl ?_
  refine r_lstore (L' := [(4, .long (lN 0)), (0, .ref x0), (1, .int (nI x1)), (2, .long (lN x2))]) dX10_times_1 (by decide) rfl ?_
  refine r_aload_n 1 dX10_times_3 rfl rfl ?_
  refine r_getf (ci := 11) (kf := 28) (T := TX10) rfl in_X10 (by decide) wF_X10_65 dX10_times_4 (MAt.o_ HM) rfl ?_
  refine r_iload_n 2 dX10_times_7 rfl rfl ?_
  obtain ⟨c, V⟩ := V
  refine r_iald dX10_times_8 (MAt.g_ln HM) rfl c (by decide) ?_
  show Blk g M_X10_times (pM x0 h0 nx Q) 9 [(4, .long (lN 0)), (0, .ref x0), (1, .int (nI x1)), (2, .long (lN x2))] [.int (nI (s.ln x1))] h nx 0 0
  refine r_istore (L' := [(6, .int (nI (s.ln x1))), (4, .long (lN 0)), (0, .ref x0), (1, .int (nI x1)), (2, .long (lN x2))]) dX10_times_9 (by decide) rfl ?_
  refine r_iconst (v := (nI 0)) dX10_times_11 rfl ?_
  refine r_istore (L' := [(7, .int (nI 0)), (6, .int (nI (s.ln x1))), (4, .long (lN 0)), (0, .ref x0), (1, .int (nI x1)), (2, .long (lN x2))]) dX10_times_12 (by decide) rfl ?_
  exact Blk.sub [3, 4, 5, 2, 1, 0] rfl (V _ _ _ HO HM)
set_option maxRecDepth 20000 in
theorem v_X10_times_14 {g : xG} {Q : mQ} {s : MV} {x0 : Nat} {x1 : Nat} {x2 : Nat} {x4 : Nat} {x6 : Nat} {x7 : Nat} (V : ((x7 < 2 ^ 31 ∧ x6 < 2 ^ 31) ∧ ((x6 ≤ x7 → ((x4 < 2 ^ 63 ∧ 0 < 2 ^ 63) ∧ ((x4 ≤ 0 → (x1 < 84 ∧ (Q none (MV.u_ln s (va_up s.ln x1 x6))))) ∧ (0 < x4 → (((160 * x1) + x6) < 13440 ∧ (x1 < 84 ∧ (Q none (MV.u_ln (MV.u_lb s (va_up s.lb ((160 * x1) + x6) x4)) (va_up s.ln x1 (x6 + 1)))))))))) ∧ (x7 < x6 → (((160 * x1) + x7) < 13440 ∧ (((((s.lb ((160 * x1) + x7)) * x2) + x4) < 2 ^ 63 ∧ 0 < 1000000000 ∧ 1000000000 < 2 ^ 63) ∧ (((160 * x1) + x7) < 13440 ∧ (((((s.lb ((160 * x1) + x7)) * x2) + x4) < 2 ^ 63 ∧ 0 < 1000000000 ∧ 1000000000 < 2 ^ 63) ∧ BlkM g M_X10_times x0 Q 14 [(0, .ref x0), (1, .int (nI x1)), (2, .long (lN x2)), (4, .long (lN ((((s.lb ((160 * x1) + x7)) * x2) + x4) / 1000000000))), (6, .int (nI x6)), (7, .int (nI (x7 + 1)))] [] (MV.u_lb s (va_up s.lb ((160 * x1) + x7) ((((s.lb ((160 * x1) + x7)) * x2) + x4) % 1000000000))))))))))) : BlkM g M_X10_times x0 Q 14 [(0, .ref x0), (1, .int (nI x1)), (2, .long (lN x2)), (4, .long (lN x4)), (6, .int (nI x6)), (7, .int (nI x7))] [] s := by
  intro h0 h nx HO HM
  refine r_iload 5 dX10_times_14 rfl ?_
  refine r_iload 4 dX10_times_16 rfl ?_
  obtain ⟨c, V⟩ := V
  refine r_icmp_geN (tgt := 74) dX10_times_18 (by decide) c (fun c => ?_) (fun c => ?_)
  · have V := V.1 c
    refine r_lload 3 dX10_times_74 rfl ?_
    refine r_lconst (v := (lN 0)) dX10_times_76 rfl ?_
    obtain ⟨c, V⟩ := V
    refine r_lif_le (tgt := 99) dX10_times_77 dX10_times_78 (by decide) c (fun c => ?_) (fun c => ?_)
    · have V := V.1 c
      refine r_aload_n 0 dX10_times_99 rfl rfl ?_
      refine r_getf (ci := 11) (kf := 28) (T := TX10) rfl in_X10 (by decide) wF_X10_65 dX10_times_100 (MAt.o_ HM) rfl ?_
      refine r_iload_n 1 dX10_times_103 rfl rfl ?_
      refine r_iload 4 dX10_times_104 rfl ?_
      obtain ⟨c, V⟩ := V
      refine r_iastN dX10_times_106 (MAt.g_ln HM) c (by decide) ?_
      obtain ⟨hu1, eu1, HMu1, HOu1⟩ := mo_ln HM HO (va_up s.ln x1 x6)
      refine Blk.eqs ?_ rfl rfl eu1
      replace HMu1 : MAt hu1 x0 (MV.u_ln s (va_up s.ln x1 x6)) := HMu1
      show Blk g M_X10_times (pM x0 h0 nx Q) 107 [(0, .ref x0), (1, .int (nI x1)), (2, .long (lN x2)), (4, .long (lN x4)), (6, .int (nI x6)), (7, .int (nI x7))] [] hu1 nx 0 0
      exact r_vret dX10_times_107 rfl (by decide) (by decide) ⟨rfl, HOu1, _, HMu1, V⟩
    · have V := V.2 c
      refine r_aload_n 0 dX10_times_81 rfl rfl ?_
      refine r_getf (ci := 11) (kf := 27) (T := TX10) rfl in_X10 (by decide) wF_X10_62 dX10_times_82 (MAt.o_ HM) rfl ?_
      refine r_sipush (v := (nI 160)) dX10_times_85 rfl ?_
      refine r_iload_n 1 dX10_times_88 rfl rfl ?_
      refine r_imulN dX10_times_89 ?_
      refine r_iload 4 dX10_times_90 rfl ?_
      refine r_iaddN dX10_times_92 ?_
      refine r_lload 3 dX10_times_93 rfl ?_
      obtain ⟨c, V⟩ := V
      refine r_lastN dX10_times_95 (MAt.g_lb HM) c (by decide) ?_
      obtain ⟨hu2, eu2, HMu2, HOu2⟩ := mo_lb HM HO (va_up s.lb ((160 * x1) + x6) x4)
      refine Blk.eqs ?_ rfl rfl eu2
      replace HMu2 : MAt hu2 x0 (MV.u_lb s (va_up s.lb ((160 * x1) + x6) x4)) := HMu2
      show Blk g M_X10_times (pM x0 h0 nx Q) 96 [(0, .ref x0), (1, .int (nI x1)), (2, .long (lN x2)), (4, .long (lN x4)), (6, .int (nI x6)), (7, .int (nI x7))] [] hu2 nx 0 0
      refine r_iincN 4 (b := 1) (L' := [(6, .int (nI (x6 + 1))), (0, .ref x0), (1, .int (nI x1)), (2, .long (lN x2)), (4, .long (lN x4)), (7, .int (nI x7))]) dX10_times_96 rfl rfl (by decide) rfl ?_
      refine r_aload_n 1 dX10_times_99 rfl rfl ?_
      refine r_getf (ci := 11) (kf := 28) (T := TX10) rfl in_X10 (by decide) wF_X10_65 dX10_times_100 (MAt.o_ HMu2) rfl ?_
      show Blk g M_X10_times (pM x0 h0 nx Q) 103 [(6, .int (nI (x6 + 1))), (0, .ref x0), (1, .int (nI x1)), (2, .long (lN x2)), (4, .long (lN x4)), (7, .int (nI x7))] [.ref (x0 + 19)] hu2 nx 0 0
      refine r_iload_n 2 dX10_times_103 rfl rfl ?_
      refine r_iload 0 dX10_times_104 rfl ?_
      obtain ⟨c, V⟩ := V
      refine r_iastN dX10_times_106 (MAt.g_ln HMu2) c (by decide) ?_
      obtain ⟨hu3, eu3, HMu3, HOu3⟩ := mo_ln HMu2 HOu2 (va_up s.ln x1 (x6 + 1))
      refine Blk.eqs ?_ rfl rfl eu3
      replace HMu3 : MAt hu3 x0 (MV.u_ln (MV.u_lb s (va_up s.lb ((160 * x1) + x6) x4)) (va_up s.ln x1 (x6 + 1))) := HMu3
      show Blk g M_X10_times (pM x0 h0 nx Q) 107 [(6, .int (nI (x6 + 1))), (0, .ref x0), (1, .int (nI x1)), (2, .long (lN x2)), (4, .long (lN x4)), (7, .int (nI x7))] [] hu3 nx 0 0
      exact r_vret dX10_times_107 rfl (by decide) (by decide) ⟨rfl, HOu3, _, HMu3, V⟩
  · have V := V.2 c
    refine r_aload_n 0 dX10_times_21 rfl rfl ?_
    refine r_getf (ci := 11) (kf := 27) (T := TX10) rfl in_X10 (by decide) wF_X10_62 dX10_times_22 (MAt.o_ HM) rfl ?_
    refine r_sipush (v := (nI 160)) dX10_times_25 rfl ?_
    refine r_iload_n 1 dX10_times_28 rfl rfl ?_
    refine r_imulN dX10_times_29 ?_
    refine r_iload 5 dX10_times_30 rfl ?_
    refine r_iaddN dX10_times_32 ?_
    obtain ⟨c, V⟩ := V
    refine r_lald dX10_times_33 (MAt.g_lb HM) rfl c (by decide) ?_
    show Blk g M_X10_times (pM x0 h0 nx Q) 34 [(0, .ref x0), (1, .int (nI x1)), (2, .long (lN x2)), (4, .long (lN x4)), (6, .int (nI x6)), (7, .int (nI x7))] [.long (lN (s.lb ((160 * x1) + x7)))] h nx 0 0
    refine r_lload_n 2 dX10_times_34 rfl rfl ?_
    refine r_lmulN dX10_times_35 ?_
    refine r_lload 3 dX10_times_36 rfl ?_
    refine r_laddN dX10_times_38 ?_
    refine r_lstore (L' := [(8, .long (lN (((s.lb ((160 * x1) + x7)) * x2) + x4))), (0, .ref x0), (1, .int (nI x1)), (2, .long (lN x2)), (4, .long (lN x4)), (6, .int (nI x6)), (7, .int (nI x7))]) dX10_times_39 (by decide) rfl ?_
    refine r_aload_n 1 dX10_times_41 rfl rfl ?_
    refine r_getf (ci := 11) (kf := 27) (T := TX10) rfl in_X10 (by decide) wF_X10_62 dX10_times_42 (MAt.o_ HM) rfl ?_
    refine r_sipush (v := (nI 160)) dX10_times_45 rfl ?_
    refine r_iload_n 2 dX10_times_48 rfl rfl ?_
    refine r_imulN dX10_times_49 ?_
    refine r_iload 6 dX10_times_50 rfl ?_
    refine r_iaddN dX10_times_52 ?_
    refine r_lload 0 dX10_times_53 rfl ?_
    refine r_ldc2 (v := (lN 1000000000)) wL_X10_217 dX10_times_55 ?_
    obtain ⟨c, V⟩ := V
    refine r_lremN dX10_times_58 c ?_
    obtain ⟨c, V⟩ := V
    refine r_lastN dX10_times_59 (MAt.g_lb HM) c (by decide) ?_
    obtain ⟨hu4, eu4, HMu4, HOu4⟩ := mo_lb HM HO (va_up s.lb ((160 * x1) + x7) ((((s.lb ((160 * x1) + x7)) * x2) + x4) % 1000000000))
    refine Blk.eqs ?_ rfl rfl eu4
    replace HMu4 : MAt hu4 x0 (MV.u_lb s (va_up s.lb ((160 * x1) + x7) ((((s.lb ((160 * x1) + x7)) * x2) + x4) % 1000000000))) := HMu4
    show Blk g M_X10_times (pM x0 h0 nx Q) 60 [(8, .long (lN (((s.lb ((160 * x1) + x7)) * x2) + x4))), (0, .ref x0), (1, .int (nI x1)), (2, .long (lN x2)), (4, .long (lN x4)), (6, .int (nI x6)), (7, .int (nI x7))] [] hu4 nx 0 0
    refine r_lload 0 dX10_times_60 rfl ?_
    refine r_ldc2 (v := (lN 1000000000)) wL_X10_217 dX10_times_62 ?_
    obtain ⟨c, V⟩ := V
    refine r_ldivN dX10_times_65 c ?_
    refine r_lstore (L' := [(4, .long (lN ((((s.lb ((160 * x1) + x7)) * x2) + x4) / 1000000000))), (8, .long (lN (((s.lb ((160 * x1) + x7)) * x2) + x4))), (0, .ref x0), (1, .int (nI x1)), (2, .long (lN x2)), (6, .int (nI x6)), (7, .int (nI x7))]) dX10_times_66 (by decide) rfl ?_
    refine r_iincN 6 (b := 1) (L' := [(7, .int (nI (x7 + 1))), (4, .long (lN ((((s.lb ((160 * x1) + x7)) * x2) + x4) / 1000000000))), (8, .long (lN (((s.lb ((160 * x1) + x7)) * x2) + x4))), (0, .ref x0), (1, .int (nI x1)), (2, .long (lN x2)), (6, .int (nI x6))]) dX10_times_68 rfl rfl (by decide) rfl ?_
    refine r_goto (tgt := 14) dX10_times_71 (by decide) ?_
    exact Blk.sub [3, 4, 5, 1, 6, 0] rfl (V _ _ _ HOu4 HMu4)
set_option maxRecDepth 20000 in
theorem v_X10_restBy_0 {g : xG} {Q : mQ} {s : MV} {x0 : Nat} {x1 : Nat} {x2 : Nat} (V : (x1 < 84 ∧ BlkM g M_X10_restBy x0 Q 13 [(0, .ref x0), (1, .int (nI x1)), (2, .long (lN x2)), (4, .long (lN 0)), (6, .int (nI (s.ln x1) - nI 1))] [] s)) : BlkM g M_X10_restBy x0 Q 0 [(0, .ref x0), (1, .int (nI x1)), (2, .long (lN x2))] [] s := by
  intro h0 h nx HO HM
  refine r_lconst (v := (lN 0)) dX10_restBy_0 rfl ?_
  refine r_lstore (L' := [(4, .long (lN 0)), (0, .ref x0), (1, .int (nI x1)), (2, .long (lN x2))]) dX10_restBy_1 (by decide) rfl ?_
  refine r_aload_n 1 dX10_restBy_3 rfl rfl ?_
  refine r_getf (ci := 11) (kf := 28) (T := TX10) rfl in_X10 (by decide) wF_X10_65 dX10_restBy_4 (MAt.o_ HM) rfl ?_
  refine r_iload_n 2 dX10_restBy_7 rfl rfl ?_
  obtain ⟨c, V⟩ := V
  refine r_iald dX10_restBy_8 (MAt.g_ln HM) rfl c (by decide) ?_
  show Blk g M_X10_restBy (pM x0 h0 nx Q) 9 [(4, .long (lN 0)), (0, .ref x0), (1, .int (nI x1)), (2, .long (lN x2))] [.int (nI (s.ln x1))] h nx 0 0
  refine r_iconst (v := (nI 1)) dX10_restBy_9 rfl ?_
  refine r_isub dX10_restBy_10 ?_
  refine r_istore (L' := [(6, .int (nI (s.ln x1) - nI 1)), (4, .long (lN 0)), (0, .ref x0), (1, .int (nI x1)), (2, .long (lN x2))]) dX10_restBy_11 (by decide) rfl ?_
  exact Blk.sub [2, 3, 4, 1, 0] rfl (V _ _ _ HO HM)
set_option maxRecDepth 20000 in
theorem v_X10_restBy_13 {g : xG} {Q : mQ} {s : MV} {x0 : Nat} {x1 : Nat} {x2 : Nat} {x4 : Nat} {x6 : Nat} (V : (x6 < 2 ^ 31 ∧ ((x6 = 0 → (Q (some (.long (lN x4))) s)) ∧ (0 < x6 → (∃ j1 : Nat, ((nI (160 * x1)) + (nI x6 - nI 1)) = nI j1 ∧ j1 < 13440 ∧ ((((x4 * 1000000000) + (s.lb j1)) < 2 ^ 63 ∧ 0 < x2 ∧ x2 < 2 ^ 63) ∧ (1 ≤ x6 ∧ BlkM g M_X10_restBy x0 Q 13 [(0, .ref x0), (1, .int (nI x1)), (2, .long (lN x2)), (4, .long (lN (((x4 * 1000000000) + (s.lb j1)) % x2))), (6, .int (nI (x6 - 1) - nI 1))] [] s))))))) : BlkM g M_X10_restBy x0 Q 13 [(0, .ref x0), (1, .int (nI x1)), (2, .long (lN x2)), (4, .long (lN x4)), (6, .int (nI x6 - nI 1))] [] s := by
  intro h0 h nx HO HM
  refine r_iload 4 dX10_restBy_13 rfl ?_
  obtain ⟨c, V⟩ := V
  refine r_if_ltP (tgt := 48) dX10_restBy_15 (by decide) c (fun c => ?_) (fun c => ?_)
  · have V := V.1 c
    refine r_lload 3 dX10_restBy_48 rfl ?_
    exact r_lret dX10_restBy_50 rfl (by decide) (by decide) ⟨rfl, HO, _, HM, V⟩
  · have V := V.2 c
    refine r_lload 3 dX10_restBy_18 rfl ?_
    refine r_ldc2 (v := (lN 1000000000)) wL_X10_217 dX10_restBy_20 ?_
    refine r_lmulN dX10_restBy_23 ?_
    refine r_aload_n 0 dX10_restBy_24 rfl rfl ?_
    refine r_getf (ci := 11) (kf := 27) (T := TX10) rfl in_X10 (by decide) wF_X10_62 dX10_restBy_25 (MAt.o_ HM) rfl ?_
    refine r_sipush (v := (nI 160)) dX10_restBy_28 rfl ?_
    refine r_iload_n 1 dX10_restBy_31 rfl rfl ?_
    refine r_imulN dX10_restBy_32 ?_
    refine r_iload 4 dX10_restBy_33 rfl ?_
    refine r_iadd dX10_restBy_35 ?_
    obtain ⟨j1, e2, V⟩ := V
    obtain ⟨c, V⟩ := V
    refine r_lald dX10_restBy_36 (MAt.g_lb HM) e2 c (by decide) ?_
    show Blk g M_X10_restBy (pM x0 h0 nx Q) 37 [(0, .ref x0), (1, .int (nI x1)), (2, .long (lN x2)), (4, .long (lN x4)), (6, .int (nI x6 - nI 1))] [.long (lN (s.lb j1)), .long (lN (x4 * 1000000000))] h nx 0 0
    refine r_laddN dX10_restBy_37 ?_
    refine r_lload_n 2 dX10_restBy_38 rfl rfl ?_
    obtain ⟨c, V⟩ := V
    refine r_lremN dX10_restBy_39 c ?_
    refine r_lstore (L' := [(4, .long (lN (((x4 * 1000000000) + (s.lb j1)) % x2))), (0, .ref x0), (1, .int (nI x1)), (2, .long (lN x2)), (6, .int (nI x6 - nI 1))]) dX10_restBy_40 (by decide) rfl ?_
    obtain ⟨c, V⟩ := V
    refine r_idecP 4 (L' := [(6, .int (nI (x6 - 1) - nI 1)), (4, .long (lN (((x4 * 1000000000) + (s.lb j1)) % x2))), (0, .ref x0), (1, .int (nI x1)), (2, .long (lN x2))]) dX10_restBy_42 rfl c (by decide) rfl ?_
    refine r_goto (tgt := 13) dX10_restBy_45 (by decide) ?_
    exact Blk.sub [2, 3, 4, 1, 0] rfl (V _ _ _ HO HM)
set_option maxRecDepth 20000 in
theorem v_X10_divide_0 {g : xG} {Q : mQ} {s : MV} {x0 : Nat} {x1 : Nat} {x2 : Nat} (V : (x1 < 84 ∧ BlkM g M_X10_divide x0 Q 13 [(0, .ref x0), (1, .int (nI x1)), (2, .long (lN x2)), (4, .long (lN 0)), (6, .int (nI (s.ln x1) - nI 1))] [] s)) : BlkM g M_X10_divide x0 Q 0 [(0, .ref x0), (1, .int (nI x1)), (2, .long (lN x2))] [] s := by
  intro h0 h nx HO HM
  refine r_lconst (v := (lN 0)) dX10_divide_0 rfl ?_
  refine r_lstore (L' := [(4, .long (lN 0)), (0, .ref x0), (1, .int (nI x1)), (2, .long (lN x2))]) dX10_divide_1 (by decide) rfl ?_
  refine r_aload_n 1 dX10_divide_3 rfl rfl ?_
  refine r_getf (ci := 11) (kf := 28) (T := TX10) rfl in_X10 (by decide) wF_X10_65 dX10_divide_4 (MAt.o_ HM) rfl ?_
  refine r_iload_n 2 dX10_divide_7 rfl rfl ?_
  obtain ⟨c, V⟩ := V
  refine r_iald dX10_divide_8 (MAt.g_ln HM) rfl c (by decide) ?_
  show Blk g M_X10_divide (pM x0 h0 nx Q) 9 [(4, .long (lN 0)), (0, .ref x0), (1, .int (nI x1)), (2, .long (lN x2))] [.int (nI (s.ln x1))] h nx 0 0
  refine r_iconst (v := (nI 1)) dX10_divide_9 rfl ?_
  refine r_isub dX10_divide_10 ?_
  refine r_istore (L' := [(6, .int (nI (s.ln x1) - nI 1)), (4, .long (lN 0)), (0, .ref x0), (1, .int (nI x1)), (2, .long (lN x2))]) dX10_divide_11 (by decide) rfl ?_
  exact Blk.sub [2, 3, 4, 1, 0] rfl (V _ _ _ HO HM)
set_option maxRecDepth 20000 in
theorem v_X10_divide_13 {g : xG} {Q : mQ} {s : MV} {x0 : Nat} {x1 : Nat} {x2 : Nat} {x4 : Nat} {x6 : Nat} (V : (x6 < 2 ^ 31 ∧ ((x6 = 0 → (CtM g M_X10_trim [.ref x0, .int (nI x1)] x0 s (fun r s3 => r = none ∧ (Q none s3)))) ∧ (0 < x6 → (∃ j4 : Nat, ((nI (160 * x1)) + (nI x6 - nI 1)) = nI j4 ∧ j4 < 13440 ∧ ((((x4 * 1000000000) + (s.lb j4)) < 2 ^ 63 ∧ 0 < x2 ∧ x2 < 2 ^ 63) ∧ (∃ j6 : Nat, ((nI (160 * x1)) + (nI x6 - nI 1)) = nI j6 ∧ j6 < 13440 ∧ ((((x4 * 1000000000) + (s.lb j4)) < 2 ^ 63 ∧ 0 < x2 ∧ x2 < 2 ^ 63) ∧ (1 ≤ x6 ∧ BlkM g M_X10_divide x0 Q 13 [(0, .ref x0), (1, .int (nI x1)), (2, .long (lN x2)), (4, .long (lN (((x4 * 1000000000) + (s.lb j4)) % x2))), (6, .int (nI (x6 - 1) - nI 1))] [] (MV.u_lb s (va_up s.lb j6 (((x4 * 1000000000) + (s.lb j4)) / x2)))))))))))) : BlkM g M_X10_divide x0 Q 13 [(0, .ref x0), (1, .int (nI x1)), (2, .long (lN x2)), (4, .long (lN x4)), (6, .int (nI x6 - nI 1))] [] s := by
  intro h0 h nx HO HM
  refine r_iload 4 dX10_divide_13 rfl ?_
  obtain ⟨c, V⟩ := V
  refine r_if_ltP (tgt := 69) dX10_divide_15 (by decide) c (fun c => ?_) (fun c => ?_)
  · have V := V.1 c
    refine r_aload_n 0 dX10_divide_69 rfl rfl ?_
    refine r_iload_n 1 dX10_divide_70 rfl rfl ?_
    refine r_callV (M2 := M_X10_trim) (ci := 11) (n := 1) (As := [.int (nI x1)]) rfl (wl5 wM_X10_219 wi_X10_trim wS_X10_trim wI_StateSharesModel wc_X10_trim) (by decide +kernel) (by decide) rfl rfl (Nat.le_of_ble_eq_true rfl) dX10_divide_71 (MAt.o_ HM) (by decide) (by decide) (Ct.imp (V _ _ HM) (fun r h1 n2 V => ?_))
    obtain ⟨rfl, Oh1, s3, HMh1, V⟩ := V
    have HOh1 := Off.tr HO Oh1
    obtain ⟨rfl, V⟩ := V
    show Blk g M_X10_divide (pM x0 h0 nx Q) 74 [(0, .ref x0), (1, .int (nI x1)), (2, .long (lN x2)), (4, .long (lN x4)), (6, .int (nI x6 - nI 1))] [] h1 nx 0 0
    exact r_vret dX10_divide_74 rfl (by decide) (by decide) ⟨rfl, HOh1, _, HMh1, V⟩
  · have V := V.2 c
    refine r_lload 3 dX10_divide_18 rfl ?_
    refine r_ldc2 (v := (lN 1000000000)) wL_X10_217 dX10_divide_20 ?_
    refine r_lmulN dX10_divide_23 ?_
    refine r_aload_n 0 dX10_divide_24 rfl rfl ?_
    refine r_getf (ci := 11) (kf := 27) (T := TX10) rfl in_X10 (by decide) wF_X10_62 dX10_divide_25 (MAt.o_ HM) rfl ?_
    refine r_sipush (v := (nI 160)) dX10_divide_28 rfl ?_
    refine r_iload_n 1 dX10_divide_31 rfl rfl ?_
    refine r_imulN dX10_divide_32 ?_
    refine r_iload 4 dX10_divide_33 rfl ?_
    refine r_iadd dX10_divide_35 ?_
    obtain ⟨j4, e5, V⟩ := V
    obtain ⟨c, V⟩ := V
    refine r_lald dX10_divide_36 (MAt.g_lb HM) e5 c (by decide) ?_
    show Blk g M_X10_divide (pM x0 h0 nx Q) 37 [(0, .ref x0), (1, .int (nI x1)), (2, .long (lN x2)), (4, .long (lN x4)), (6, .int (nI x6 - nI 1))] [.long (lN (s.lb j4)), .long (lN (x4 * 1000000000))] h nx 0 0
    refine r_laddN dX10_divide_37 ?_
    refine r_lstore (L' := [(7, .long (lN ((x4 * 1000000000) + (s.lb j4)))), (0, .ref x0), (1, .int (nI x1)), (2, .long (lN x2)), (4, .long (lN x4)), (6, .int (nI x6 - nI 1))]) dX10_divide_38 (by decide) rfl ?_
    refine r_aload_n 1 dX10_divide_40 rfl rfl ?_
    refine r_getf (ci := 11) (kf := 27) (T := TX10) rfl in_X10 (by decide) wF_X10_62 dX10_divide_41 (MAt.o_ HM) rfl ?_
    refine r_sipush (v := (nI 160)) dX10_divide_44 rfl ?_
    refine r_iload_n 2 dX10_divide_47 rfl rfl ?_
    refine r_imulN dX10_divide_48 ?_
    refine r_iload 5 dX10_divide_49 rfl ?_
    refine r_iadd dX10_divide_51 ?_
    refine r_lload 0 dX10_divide_52 rfl ?_
    refine r_lload_n 3 dX10_divide_54 rfl rfl ?_
    obtain ⟨c, V⟩ := V
    refine r_ldivN dX10_divide_55 c ?_
    obtain ⟨j6, e7, V⟩ := V
    obtain ⟨c, V⟩ := V
    refine r_lastH dX10_divide_56 (MAt.g_lb HM) e7 c (by decide) ?_
    obtain ⟨hu8, eu8, HMu8, HOu8⟩ := mo_lb HM HO (va_up s.lb j6 (((x4 * 1000000000) + (s.lb j4)) / x2))
    refine Blk.eqs ?_ rfl rfl eu8
    replace HMu8 : MAt hu8 x0 (MV.u_lb s (va_up s.lb j6 (((x4 * 1000000000) + (s.lb j4)) / x2))) := HMu8
    show Blk g M_X10_divide (pM x0 h0 nx Q) 57 [(7, .long (lN ((x4 * 1000000000) + (s.lb j4)))), (0, .ref x0), (1, .int (nI x1)), (2, .long (lN x2)), (4, .long (lN x4)), (6, .int (nI x6 - nI 1))] [] hu8 nx 0 0
    refine r_lload 0 dX10_divide_57 rfl ?_
    refine r_lload_n 3 dX10_divide_59 rfl rfl ?_
    obtain ⟨c, V⟩ := V
    refine r_lremN dX10_divide_60 c ?_
    refine r_lstore (L' := [(4, .long (lN (((x4 * 1000000000) + (s.lb j4)) % x2))), (7, .long (lN ((x4 * 1000000000) + (s.lb j4)))), (0, .ref x0), (1, .int (nI x1)), (2, .long (lN x2)), (6, .int (nI x6 - nI 1))]) dX10_divide_61 (by decide) rfl ?_
    obtain ⟨c, V⟩ := V
    refine r_idecP 5 (L' := [(6, .int (nI (x6 - 1) - nI 1)), (4, .long (lN (((x4 * 1000000000) + (s.lb j4)) % x2))), (7, .long (lN ((x4 * 1000000000) + (s.lb j4)))), (0, .ref x0), (1, .int (nI x1)), (2, .long (lN x2))]) dX10_divide_63 rfl c (by decide) rfl ?_
    refine r_goto (tgt := 13) dX10_divide_66 (by decide) ?_
    exact Blk.sub [3, 4, 5, 1, 0] rfl (V _ _ _ HOu8 HMu8)
set_option maxRecDepth 20000 in
theorem v_X10_trim_0 {g : xG} {Q : mQ} {s : MV} {x0 : Nat} {x1 : Nat} (V : (x1 < 84 ∧ ((s.ln x1) < 2 ^ 31 ∧ (((s.ln x1) = 0 → (Q none s)) ∧ (0 < (s.ln x1) → (x1 < 84 ∧ (1 ≤ ((160 * x1) + (s.ln x1)) ∧ ((((160 * x1) + (s.ln x1)) - 1) < 13440 ∧ (((s.lb (((160 * x1) + (s.ln x1)) - 1)) < 2 ^ 63 ∧ 0 < 2 ^ 63) ∧ ((¬ (s.lb (((160 * x1) + (s.ln x1)) - 1)) = 0 → (Q none s)) ∧ ((s.lb (((160 * x1) + (s.ln x1)) - 1)) = 0 → (x1 < 84 ∧ (1 ≤ (s.ln x1) ∧ (x1 < 84 ∧ BlkM g M_X10_trim x0 Q 0 [(0, .ref x0), (1, .int (nI x1))] [] (MV.u_ln s (va_up s.ln x1 ((s.ln x1) - 1))))))))))))))))) : BlkM g M_X10_trim x0 Q 0 [(0, .ref x0), (1, .int (nI x1))] [] s := by
  intro h0 h nx HO HM
  refine r_aload_n 0 dX10_trim_0 rfl rfl ?_
  refine r_getf (ci := 11) (kf := 28) (T := TX10) rfl in_X10 (by decide) wF_X10_65 dX10_trim_1 (MAt.o_ HM) rfl ?_
  refine r_iload_n 1 dX10_trim_4 rfl rfl ?_
  obtain ⟨c, V⟩ := V
  refine r_iald dX10_trim_5 (MAt.g_ln HM) rfl c (by decide) ?_
  show Blk g M_X10_trim (pM x0 h0 nx Q) 6 [(0, .ref x0), (1, .int (nI x1))] [.int (nI (s.ln x1))] h nx 0 0
  obtain ⟨c, V⟩ := V
  refine r_if_leN (tgt := 46) dX10_trim_6 (by decide) c (fun c => ?_) (fun c => ?_)
  · have V := V.1 c
    exact r_vret dX10_trim_46 rfl (by decide) (by decide) ⟨rfl, HO, _, HM, V⟩
  · have V := V.2 c
    refine r_aload_n 0 dX10_trim_9 rfl rfl ?_
    refine r_getf (ci := 11) (kf := 27) (T := TX10) rfl in_X10 (by decide) wF_X10_62 dX10_trim_10 (MAt.o_ HM) rfl ?_
    refine r_sipush (v := (nI 160)) dX10_trim_13 rfl ?_
    refine r_iload_n 1 dX10_trim_16 rfl rfl ?_
    refine r_imulN dX10_trim_17 ?_
    refine r_aload_n 0 dX10_trim_18 rfl rfl ?_
    refine r_getf (ci := 11) (kf := 28) (T := TX10) rfl in_X10 (by decide) wF_X10_65 dX10_trim_19 (MAt.o_ HM) rfl ?_
    refine r_iload_n 1 dX10_trim_22 rfl rfl ?_
    obtain ⟨c, V⟩ := V
    refine r_iald dX10_trim_23 (MAt.g_ln HM) rfl c (by decide) ?_
    show Blk g M_X10_trim (pM x0 h0 nx Q) 24 [(0, .ref x0), (1, .int (nI x1))] [.int (nI (s.ln x1)), .int (nI (160 * x1)), .ref (x0 + 18)] h nx 0 0
    refine r_iaddN dX10_trim_24 ?_
    refine r_iconst (v := (nI 1)) dX10_trim_25 rfl ?_
    obtain ⟨c, V⟩ := V
    refine r_isubN dX10_trim_26 c ?_
    obtain ⟨c, V⟩ := V
    refine r_lald dX10_trim_27 (MAt.g_lb HM) rfl c (by decide) ?_
    show Blk g M_X10_trim (pM x0 h0 nx Q) 28 [(0, .ref x0), (1, .int (nI x1))] [.long (lN (s.lb (((160 * x1) + (s.ln x1)) - 1)))] h nx 0 0
    refine r_lconst (v := (lN 0)) dX10_trim_28 rfl ?_
    obtain ⟨c, V⟩ := V
    refine r_lif_ne (tgt := 46) dX10_trim_29 dX10_trim_30 (by decide) c (fun c => ?_) (fun c => ?_)
    · have V := V.1 c
      exact r_vret dX10_trim_46 rfl (by decide) (by decide) ⟨rfl, HO, _, HM, V⟩
    · have V := V.2 c
      refine r_aload_n 0 dX10_trim_33 rfl rfl ?_
      refine r_getf (ci := 11) (kf := 28) (T := TX10) rfl in_X10 (by decide) wF_X10_65 dX10_trim_34 (MAt.o_ HM) rfl ?_
      refine r_iload_n 1 dX10_trim_37 rfl rfl ?_
      refine r_dup2_11 dX10_trim_38 rfl rfl ?_
      obtain ⟨c, V⟩ := V
      refine r_iald dX10_trim_39 (MAt.g_ln HM) rfl c (by decide) ?_
      show Blk g M_X10_trim (pM x0 h0 nx Q) 40 [(0, .ref x0), (1, .int (nI x1))] [.int (nI (s.ln x1)), .int (nI x1), .ref (x0 + 19)] h nx 0 0
      refine r_iconst (v := (nI 1)) dX10_trim_40 rfl ?_
      obtain ⟨c, V⟩ := V
      refine r_isubN dX10_trim_41 c ?_
      obtain ⟨c, V⟩ := V
      refine r_iastN dX10_trim_42 (MAt.g_ln HM) c (by decide) ?_
      obtain ⟨hu1, eu1, HMu1, HOu1⟩ := mo_ln HM HO (va_up s.ln x1 ((s.ln x1) - 1))
      refine Blk.eqs ?_ rfl rfl eu1
      replace HMu1 : MAt hu1 x0 (MV.u_ln s (va_up s.ln x1 ((s.ln x1) - 1))) := HMu1
      show Blk g M_X10_trim (pM x0 h0 nx Q) 43 [(0, .ref x0), (1, .int (nI x1))] [] hu1 nx 0 0
      refine r_goto (tgt := 0) dX10_trim_43 (by decide) ?_
      exact Blk.sub [0, 1] rfl (V _ _ _ HOu1 HMu1)
set_option maxRecDepth 20000 in
theorem v_X10_reduce_0 {g : xG} {Q : mQ} {s : MV} {x0 : Nat} {x1 : Nat} (V : BlkM g M_X10_reduce x0 Q 2 [(0, .ref x0), (1, .int (nI x1)), (2, .int (nI 0))] [] s) : BlkM g M_X10_reduce x0 Q 0 [(0, .ref x0), (1, .int (nI x1))] [] s := by
  intro h0 h nx HO HM
  refine r_iconst (v := (nI 0)) dX10_reduce_0 rfl ?_
  refine r_istore_n (L' := [(2, .int (nI 0)), (0, .ref x0), (1, .int (nI x1))]) dX10_reduce_1 rfl (by decide) rfl ?_
  exact Blk.sub [1, 2, 0] rfl (V _ _ _ HO HM)
set_option maxRecDepth 20000 in
theorem v_X10_reduce_2 {g : xG} {Q : mQ} {s : MV} {x0 : Nat} {x1 : Nat} {x2 : Nat} (V : ((x2 < 2 ^ 31 ∧ 168 < 2 ^ 31) ∧ ((168 ≤ x2 → (Q none s)) ∧ (x2 < 168 → (x1 < 84 ∧ ((s.ln x1) < 2 ^ 31 ∧ ((¬ (s.ln x1) = 0 → BlkM g M_X10_reduce x0 Q 31 [(0, .ref x0), (1, .int (nI x1)), (2, .int (nI x2))] [] s) ∧ ((s.ln x1) = 0 → (((168 * x1) + x2) < 14112 ∧ BlkM g M_X10_reduce x0 Q 31 [(0, .ref x0), (1, .int (nI x1)), (2, .int (nI x2))] [] (MV.u_pw s (va_up s.pw ((168 * x1) + x2) 0))))))))))) : BlkM g M_X10_reduce x0 Q 2 [(0, .ref x0), (1, .int (nI x1)), (2, .int (nI x2))] [] s := by
  intro h0 h nx HO HM
  refine r_iload_n 2 dX10_reduce_2 rfl rfl ?_
  refine r_sipush (v := (nI 168)) dX10_reduce_3 rfl ?_
  obtain ⟨c, V⟩ := V
  refine r_icmp_geN (tgt := 100) dX10_reduce_6 (by decide) c (fun c => ?_) (fun c => ?_)
  · have V := V.1 c
    exact r_vret dX10_reduce_100 rfl (by decide) (by decide) ⟨rfl, HO, _, HM, V⟩
  · have V := V.2 c
    refine r_aload_n 0 dX10_reduce_9 rfl rfl ?_
    refine r_getf (ci := 11) (kf := 28) (T := TX10) rfl in_X10 (by decide) wF_X10_65 dX10_reduce_10 (MAt.o_ HM) rfl ?_
    refine r_iload_n 1 dX10_reduce_13 rfl rfl ?_
    obtain ⟨c, V⟩ := V
    refine r_iald dX10_reduce_14 (MAt.g_ln HM) rfl c (by decide) ?_
    show Blk g M_X10_reduce (pM x0 h0 nx Q) 15 [(0, .ref x0), (1, .int (nI x1)), (2, .int (nI x2))] [.int (nI (s.ln x1))] h nx 0 0
    obtain ⟨c, V⟩ := V
    refine r_if_neN (tgt := 31) dX10_reduce_15 (by decide) c (fun c => ?_) (fun c => ?_)
    · have V := V.1 c
      exact Blk.sub [0, 1, 2] rfl (V _ _ _ HO HM)
    · have V := V.2 c
      refine r_aload_n 0 dX10_reduce_18 rfl rfl ?_
      refine r_getf (ci := 11) (kf := 29) (T := TX10) rfl in_X10 (by decide) wF_X10_68 dX10_reduce_19 (MAt.o_ HM) rfl ?_
      refine r_sipush (v := (nI 168)) dX10_reduce_22 rfl ?_
      refine r_iload_n 1 dX10_reduce_25 rfl rfl ?_
      refine r_imulN dX10_reduce_26 ?_
      refine r_iload_n 2 dX10_reduce_27 rfl rfl ?_
      refine r_iaddN dX10_reduce_28 ?_
      refine r_iconst (v := (nI 0)) dX10_reduce_29 rfl ?_
      obtain ⟨c, V⟩ := V
      refine r_iastN dX10_reduce_30 (MAt.g_pw HM) c (by decide) ?_
      obtain ⟨hu1, eu1, HMu1, HOu1⟩ := mo_pw HM HO (va_up s.pw ((168 * x1) + x2) 0)
      refine Blk.eqs ?_ rfl rfl eu1
      replace HMu1 : MAt hu1 x0 (MV.u_pw s (va_up s.pw ((168 * x1) + x2) 0)) := HMu1
      show Blk g M_X10_reduce (pM x0 h0 nx Q) 31 [(0, .ref x0), (1, .int (nI x1)), (2, .int (nI x2))] [] hu1 nx 0 0
      exact Blk.sub [0, 1, 2] rfl (V _ _ _ HOu1 HMu1)
set_option maxRecDepth 20000 in
theorem v_X10_reduce_31 {g : xG} {Q : mQ} {s : MV} {x0 : Nat} {x1 : Nat} {x2 : Nat} (V : (((168 * x1) + x2) < 14112 ∧ ((s.pw ((168 * x1) + x2)) < 2 ^ 31 ∧ (((s.pw ((168 * x1) + x2)) = 0 → BlkM g M_X10_reduce x0 Q 2 [(0, .ref x0), (1, .int (nI x1)), (2, .int (nI (x2 + 1)))] [] s) ∧ (0 < (s.pw ((168 * x1) + x2)) → (x2 < 168 ∧ ((s.pr x2) < 2 ^ 31 ∧ (CtM g M_X10_restBy [.ref x0, .int (nI x1), .long (lN (s.pr x2))] x0 s (fun r s3 => ∃ v4 : Nat, r = some (.long (lN v4)) ∧ ((v4 < 2 ^ 63 ∧ 0 < 2 ^ 63) ∧ ((¬ v4 = 0 → BlkM g M_X10_reduce x0 Q 2 [(0, .ref x0), (1, .int (nI x1)), (2, .int (nI (x2 + 1)))] [] s3) ∧ (v4 = 0 → (x2 < 168 ∧ ((s3.pr x2) < 2 ^ 31 ∧ (CtM g M_X10_divide [.ref x0, .int (nI x1), .long (lN (s3.pr x2))] x0 s3 (fun r s7 => r = none ∧ (((168 * x1) + x2) < 14112 ∧ (1 ≤ (s7.pw ((168 * x1) + x2)) ∧ (((168 * x1) + x2) < 14112 ∧ BlkM g M_X10_reduce x0 Q 31 [(0, .ref x0), (1, .int (nI x1)), (2, .int (nI x2))] [] (MV.u_pw s7 (va_up s7.pw ((168 * x1) + x2) ((s7.pw ((168 * x1) + x2)) - 1)))))))))))))))))))))) : BlkM g M_X10_reduce x0 Q 31 [(0, .ref x0), (1, .int (nI x1)), (2, .int (nI x2))] [] s := by
  intro h0 h nx HO HM
  refine r_aload_n 0 dX10_reduce_31 rfl rfl ?_
  refine r_getf (ci := 11) (kf := 29) (T := TX10) rfl in_X10 (by decide) wF_X10_68 dX10_reduce_32 (MAt.o_ HM) rfl ?_
  refine r_sipush (v := (nI 168)) dX10_reduce_35 rfl ?_
  refine r_iload_n 1 dX10_reduce_38 rfl rfl ?_
  refine r_imulN dX10_reduce_39 ?_
  refine r_iload_n 2 dX10_reduce_40 rfl rfl ?_
  refine r_iaddN dX10_reduce_41 ?_
  obtain ⟨c, V⟩ := V
  refine r_iald dX10_reduce_42 (MAt.g_pw HM) rfl c (by decide) ?_
  show Blk g M_X10_reduce (pM x0 h0 nx Q) 43 [(0, .ref x0), (1, .int (nI x1)), (2, .int (nI x2))] [.int (nI (s.pw ((168 * x1) + x2)))] h nx 0 0
  obtain ⟨c, V⟩ := V
  refine r_if_leN (tgt := 94) dX10_reduce_43 (by decide) c (fun c => ?_) (fun c => ?_)
  · have V := V.1 c
    refine r_iincN 2 (b := 1) (L' := [(2, .int (nI (x2 + 1))), (0, .ref x0), (1, .int (nI x1))]) dX10_reduce_94 rfl rfl (by decide) rfl ?_
    refine r_goto (tgt := 2) dX10_reduce_97 (by decide) ?_
    exact Blk.sub [1, 2, 0] rfl (V _ _ _ HO HM)
  · have V := V.2 c
    refine r_aload_n 0 dX10_reduce_46 rfl rfl ?_
    refine r_iload_n 1 dX10_reduce_47 rfl rfl ?_
    refine r_aload_n 0 dX10_reduce_48 rfl rfl ?_
    refine r_getf (ci := 11) (kf := 26) (T := TX10) rfl in_X10 (by decide) wF_X10_59 dX10_reduce_49 (MAt.o_ HM) rfl ?_
    refine r_iload_n 2 dX10_reduce_52 rfl rfl ?_
    obtain ⟨c, V⟩ := V
    refine r_iald dX10_reduce_53 (MAt.g_pr HM) rfl c (by decide) ?_
    show Blk g M_X10_reduce (pM x0 h0 nx Q) 54 [(0, .ref x0), (1, .int (nI x1)), (2, .int (nI x2))] [.int (nI (s.pr x2)), .int (nI x1), .ref x0] h nx 0 0
    obtain ⟨c, V⟩ := V
    refine r_i2lN dX10_reduce_54 c ?_
    refine r_callV (M2 := M_X10_restBy) (ci := 11) (n := 2) (As := [.int (nI x1), .long (lN (s.pr x2))]) rfl (wl5 wM_X10_222 wi_X10_restBy wS_X10_restBy wI_StateSharesModel wc_X10_restBy) (by decide +kernel) (by decide) rfl rfl (Nat.le_of_ble_eq_true rfl) dX10_reduce_55 (MAt.o_ HM) (by decide) (by decide) (Ct.imp (V _ _ HM) (fun r h1 n2 V => ?_))
    obtain ⟨rfl, Oh1, s3, HMh1, V⟩ := V
    have HOh1 := Off.tr HO Oh1
    obtain ⟨v4, rfl, V⟩ := V
    show Blk g M_X10_reduce (pM x0 h0 nx Q) 58 [(0, .ref x0), (1, .int (nI x1)), (2, .int (nI x2))] [.long (lN v4)] h1 nx 0 0
    refine r_lconst (v := (lN 0)) dX10_reduce_58 rfl ?_
    obtain ⟨c, V⟩ := V
    refine r_lif_ne (tgt := 94) dX10_reduce_59 dX10_reduce_60 (by decide) c (fun c => ?_) (fun c => ?_)
    · have V := V.1 c
      refine r_iincN 2 (b := 1) (L' := [(2, .int (nI (x2 + 1))), (0, .ref x0), (1, .int (nI x1))]) dX10_reduce_94 rfl rfl (by decide) rfl ?_
      refine r_goto (tgt := 2) dX10_reduce_97 (by decide) ?_
      exact Blk.sub [1, 2, 0] rfl (V _ _ _ HOh1 HMh1)
    · have V := V.2 c
      refine r_aload_n 0 dX10_reduce_63 rfl rfl ?_
      refine r_iload_n 1 dX10_reduce_64 rfl rfl ?_
      refine r_aload_n 0 dX10_reduce_65 rfl rfl ?_
      refine r_getf (ci := 11) (kf := 26) (T := TX10) rfl in_X10 (by decide) wF_X10_59 dX10_reduce_66 (MAt.o_ HMh1) rfl ?_
      refine r_iload_n 2 dX10_reduce_69 rfl rfl ?_
      obtain ⟨c, V⟩ := V
      refine r_iald dX10_reduce_70 (MAt.g_pr HMh1) rfl c (by decide) ?_
      show Blk g M_X10_reduce (pM x0 h0 nx Q) 71 [(0, .ref x0), (1, .int (nI x1)), (2, .int (nI x2))] [.int (nI (s3.pr x2)), .int (nI x1), .ref x0] h1 nx 0 0
      obtain ⟨c, V⟩ := V
      refine r_i2lN dX10_reduce_71 c ?_
      refine r_callV (M2 := M_X10_divide) (ci := 11) (n := 2) (As := [.int (nI x1), .long (lN (s3.pr x2))]) rfl (wl5 wM_X10_226 wi_X10_divide wS_X10_divide wI_StateSharesModel wc_X10_divide) (by decide +kernel) (by decide) rfl rfl (Nat.le_of_ble_eq_true rfl) dX10_reduce_72 (MAt.o_ HMh1) (by decide) (by decide) (Ct.imp (V _ _ HMh1) (fun r h5 n6 V => ?_))
      obtain ⟨rfl, Oh5, s7, HMh5, V⟩ := V
      have HOh5 := Off.tr HOh1 Oh5
      obtain ⟨rfl, V⟩ := V
      show Blk g M_X10_reduce (pM x0 h0 nx Q) 75 [(0, .ref x0), (1, .int (nI x1)), (2, .int (nI x2))] [] h5 nx 0 0
      refine r_aload_n 0 dX10_reduce_75 rfl rfl ?_
      refine r_getf (ci := 11) (kf := 29) (T := TX10) rfl in_X10 (by decide) wF_X10_68 dX10_reduce_76 (MAt.o_ HMh5) rfl ?_
      refine r_sipush (v := (nI 168)) dX10_reduce_79 rfl ?_
      refine r_iload_n 1 dX10_reduce_82 rfl rfl ?_
      refine r_imulN dX10_reduce_83 ?_
      refine r_iload_n 2 dX10_reduce_84 rfl rfl ?_
      refine r_iaddN dX10_reduce_85 ?_
      refine r_dup2_11 dX10_reduce_86 rfl rfl ?_
      obtain ⟨c, V⟩ := V
      refine r_iald dX10_reduce_87 (MAt.g_pw HMh5) rfl c (by decide) ?_
      show Blk g M_X10_reduce (pM x0 h0 nx Q) 88 [(0, .ref x0), (1, .int (nI x1)), (2, .int (nI x2))] [.int (nI (s7.pw ((168 * x1) + x2))), .int (nI ((168 * x1) + x2)), .ref (x0 + 20)] h5 nx 0 0
      refine r_iconst (v := (nI 1)) dX10_reduce_88 rfl ?_
      obtain ⟨c, V⟩ := V
      refine r_isubN dX10_reduce_89 c ?_
      obtain ⟨c, V⟩ := V
      refine r_iastN dX10_reduce_90 (MAt.g_pw HMh5) c (by decide) ?_
      obtain ⟨hu8, eu8, HMu8, HOu8⟩ := mo_pw HMh5 HOh5 (va_up s7.pw ((168 * x1) + x2) ((s7.pw ((168 * x1) + x2)) - 1))
      refine Blk.eqs ?_ rfl rfl eu8
      replace HMu8 : MAt hu8 x0 (MV.u_pw s7 (va_up s7.pw ((168 * x1) + x2) ((s7.pw ((168 * x1) + x2)) - 1))) := HMu8
      show Blk g M_X10_reduce (pM x0 h0 nx Q) 91 [(0, .ref x0), (1, .int (nI x1)), (2, .int (nI x2))] [] hu8 nx 0 0
      refine r_goto (tgt := 31) dX10_reduce_91 (by decide) ?_
      exact Blk.sub [0, 1, 2] rfl (V _ _ _ HOu8 HMu8)
set_option maxRecDepth 20000 in
theorem v_X10_part_0 {g : xG} {Q : mQ} {s : MV} {x0 : Nat} {x1 : Nat} {x2 : Nat} {x4 : Nat} (V : ((x2 < 2 ^ 63 ∧ 0 < 2 ^ 63) ∧ ((¬ x2 = 0 → (CtM g M_X10_times [.ref x0, .int (nI x1), .long (lN x2)] x0 s (fun r s3 => r = none ∧ BlkM g M_X10_part x0 Q 26 [(0, .ref x0), (1, .int (nI x1)), (5, .int (nI x4)), (6, .int (nI 0))] [] s3))) ∧ (x2 = 0 → (CtM g M_X10_set [.ref x0, .int (nI x1), .long (lN 0)] x0 s (fun r s6 => r = none ∧ (Q none s6))))))) : BlkM g M_X10_part x0 Q 0 [(0, .ref x0), (1, .int (nI x1)), (2, .long (lN x2)), (4, .int (nI x4))] [] s := by
  intro h0 h nx HO HM
  refine r_lload_n 2 dX10_part_0 rfl rfl ?_
  refine r_lconst (v := (lN 0)) dX10_part_1 rfl ?_
  obtain ⟨c, V⟩ := V
  refine r_lif_ne (tgt := 13) dX10_part_2 dX10_part_3 (by decide) c (fun c => ?_) (fun c => ?_)
  · have V := V.1 c
    refine r_aload_n 0 dX10_part_13 rfl rfl ?_
    refine r_iload_n 1 dX10_part_14 rfl rfl ?_
    refine r_lload_n 2 dX10_part_15 rfl rfl ?_
    refine r_callV (M2 := M_X10_times) (ci := 11) (n := 2) (As := [.int (nI x1), .long (lN x2)]) rfl (wl5 wM_X10_88 wi_X10_times wS_X10_times wI_StateSharesModel wc_X10_times) (by decide +kernel) (by decide) rfl rfl (Nat.le_of_ble_eq_true rfl) dX10_part_16 (MAt.o_ HM) (by decide) (by decide) (Ct.imp (V _ _ HM) (fun r h1 n2 V => ?_))
    obtain ⟨rfl, Oh1, s3, HMh1, V⟩ := V
    have HOh1 := Off.tr HO Oh1
    obtain ⟨rfl, V⟩ := V
    show Blk g M_X10_part (pM x0 h0 nx Q) 19 [(0, .ref x0), (1, .int (nI x1)), (2, .long (lN x2)), (4, .int (nI x4))] [] h1 nx 0 0
    refine r_iload 3 dX10_part_19 rfl ?_
    refine r_istore (L' := [(5, .int (nI x4)), (0, .ref x0), (1, .int (nI x1)), (2, .long (lN x2)), (4, .int (nI x4))]) dX10_part_21 (by decide) rfl ?_
    refine r_iconst (v := (nI 0)) dX10_part_23 rfl ?_
    refine r_istore (L' := [(6, .int (nI 0)), (5, .int (nI x4)), (0, .ref x0), (1, .int (nI x1)), (2, .long (lN x2)), (4, .int (nI x4))]) dX10_part_24 (by decide) rfl ?_
    exact Blk.sub [2, 3, 1, 0] rfl (V _ _ _ HOh1 HMh1)
  · have V := V.2 c
    refine r_aload_n 0 dX10_part_6 rfl rfl ?_
    refine r_iload_n 1 dX10_part_7 rfl rfl ?_
    refine r_lconst (v := (lN 0)) dX10_part_8 rfl ?_
    refine r_callV (M2 := M_X10_set) (ci := 11) (n := 2) (As := [.int (nI x1), .long (lN 0)]) rfl (wl5 wM_X10_82 wi_X10_set wS_X10_set wI_StateSharesModel wc_X10_set) (by decide +kernel) (by decide) rfl rfl (Nat.le_of_ble_eq_true rfl) dX10_part_9 (MAt.o_ HM) (by decide) (by decide) (Ct.imp (V _ _ HM) (fun r h4 n5 V => ?_))
    obtain ⟨rfl, Oh4, s6, HMh4, V⟩ := V
    have HOh4 := Off.tr HO Oh4
    obtain ⟨rfl, V⟩ := V
    show Blk g M_X10_part (pM x0 h0 nx Q) 12 [(0, .ref x0), (1, .int (nI x1)), (2, .long (lN x2)), (4, .int (nI x4))] [] h4 nx 0 0
    exact r_vret dX10_part_12 rfl (by decide) (by decide) ⟨rfl, HOh4, _, HMh4, V⟩
set_option maxRecDepth 20000 in
theorem v_X10_part_26 {g : xG} {Q : mQ} {s : MV} {x0 : Nat} {x1 : Nat} {x5 : Nat} {x6 : Nat} (V : ((x6 < 2 ^ 31 ∧ 168 < 2 ^ 31) ∧ ((168 ≤ x6 → (CtM g M_X10_reduce [.ref x0, .int (nI x1)] x0 s (fun r s3 => r = none ∧ (Q none s3)))) ∧ (x6 < 168 → ((x5 < 2 ^ 31 ∧ 1 < 2 ^ 31) ∧ ((x5 ≤ 1 → (CtM g M_X10_reduce [.ref x0, .int (nI x1)] x0 s (fun r s6 => r = none ∧ (Q none s6)))) ∧ (1 < x5 → BlkM g M_X10_part x0 Q 40 [(0, .ref x0), (1, .int (nI x1)), (5, .int (nI x5)), (6, .int (nI x6))] [] s))))))) : BlkM g M_X10_part x0 Q 26 [(0, .ref x0), (1, .int (nI x1)), (5, .int (nI x5)), (6, .int (nI x6))] [] s := by
  intro h0 h nx HO HM
  refine r_iload 3 dX10_part_26 rfl ?_
  refine r_sipush (v := (nI 168)) dX10_part_28 rfl ?_
  obtain ⟨c, V⟩ := V
  refine r_icmp_geN (tgt := 91) dX10_part_31 (by decide) c (fun c => ?_) (fun c => ?_)
  · have V := V.1 c
    refine r_aload_n 0 dX10_part_91 rfl rfl ?_
    refine r_iload_n 1 dX10_part_92 rfl rfl ?_
    refine r_callV (M2 := M_X10_reduce) (ci := 11) (n := 1) (As := [.int (nI x1)]) rfl (wl5 wM_X10_229 wi_X10_reduce wS_X10_reduce wI_StateSharesModel wc_X10_reduce) (by decide +kernel) (by decide) rfl rfl (Nat.le_of_ble_eq_true rfl) dX10_part_93 (MAt.o_ HM) (by decide) (by decide) (Ct.imp (V _ _ HM) (fun r h1 n2 V => ?_))
    obtain ⟨rfl, Oh1, s3, HMh1, V⟩ := V
    have HOh1 := Off.tr HO Oh1
    obtain ⟨rfl, V⟩ := V
    show Blk g M_X10_part (pM x0 h0 nx Q) 96 [(0, .ref x0), (1, .int (nI x1)), (5, .int (nI x5)), (6, .int (nI x6))] [] h1 nx 0 0
    exact r_vret dX10_part_96 rfl (by decide) (by decide) ⟨rfl, HOh1, _, HMh1, V⟩
  · have V := V.2 c
    refine r_iload 2 dX10_part_34 rfl ?_
    refine r_iconst (v := (nI 1)) dX10_part_36 rfl ?_
    obtain ⟨c, V⟩ := V
    refine r_icmp_leN (tgt := 91) dX10_part_37 (by decide) c (fun c => ?_) (fun c => ?_)
    · have V := V.1 c
      refine r_aload_n 0 dX10_part_91 rfl rfl ?_
      refine r_iload_n 1 dX10_part_92 rfl rfl ?_
      refine r_callV (M2 := M_X10_reduce) (ci := 11) (n := 1) (As := [.int (nI x1)]) rfl (wl5 wM_X10_229 wi_X10_reduce wS_X10_reduce wI_StateSharesModel wc_X10_reduce) (by decide +kernel) (by decide) rfl rfl (Nat.le_of_ble_eq_true rfl) dX10_part_93 (MAt.o_ HM) (by decide) (by decide) (Ct.imp (V _ _ HM) (fun r h4 n5 V => ?_))
      obtain ⟨rfl, Oh4, s6, HMh4, V⟩ := V
      have HOh4 := Off.tr HO Oh4
      obtain ⟨rfl, V⟩ := V
      show Blk g M_X10_part (pM x0 h0 nx Q) 96 [(0, .ref x0), (1, .int (nI x1)), (5, .int (nI x5)), (6, .int (nI x6))] [] h4 nx 0 0
      exact r_vret dX10_part_96 rfl (by decide) (by decide) ⟨rfl, HOh4, _, HMh4, V⟩
    · have V := V.2 c
      exact Blk.sub [0, 1, 2, 3] rfl (V _ _ _ HO HM)
set_option maxRecDepth 20000 in
theorem v_X10_part_40 {g : xG} {Q : mQ} {s : MV} {x0 : Nat} {x1 : Nat} {x5 : Nat} {x6 : Nat} (V : (x6 < 168 ∧ ((x5 < 2 ^ 31 ∧ 0 < (s.pr x6) ∧ (s.pr x6) < 2 ^ 31) ∧ ((x5 % (s.pr x6)) < 2 ^ 31 ∧ ((¬ (x5 % (s.pr x6)) = 0 → BlkM g M_X10_part x0 Q 26 [(0, .ref x0), (1, .int (nI x1)), (5, .int (nI x5)), (6, .int (nI (x6 + 1)))] [] s) ∧ ((x5 % (s.pr x6)) = 0 → (((168 * x1) + x6) < 14112 ∧ (((168 * x1) + x6) < 14112 ∧ (x6 < 168 ∧ ((x5 < 2 ^ 31 ∧ 0 < (s.pr x6) ∧ (s.pr x6) < 2 ^ 31) ∧ BlkM g M_X10_part x0 Q 40 [(0, .ref x0), (1, .int (nI x1)), (5, .int (nI (x5 / (s.pr x6)))), (6, .int (nI x6))] [] (MV.u_pw s (va_up s.pw ((168 * x1) + x6) ((s.pw ((168 * x1) + x6)) + 1))))))))))))) : BlkM g M_X10_part x0 Q 40 [(0, .ref x0), (1, .int (nI x1)), (5, .int (nI x5)), (6, .int (nI x6))] [] s := by
  intro h0 h nx HO HM
  refine r_iload 2 dX10_part_40 rfl ?_
  refine r_aload_n 0 dX10_part_42 rfl rfl ?_
  refine r_getf (ci := 11) (kf := 26) (T := TX10) rfl in_X10 (by decide) wF_X10_59 dX10_part_43 (MAt.o_ HM) rfl ?_
  refine r_iload 3 dX10_part_46 rfl ?_
  obtain ⟨c, V⟩ := V
  refine r_iald dX10_part_48 (MAt.g_pr HM) rfl c (by decide) ?_
  show Blk g M_X10_part (pM x0 h0 nx Q) 49 [(0, .ref x0), (1, .int (nI x1)), (5, .int (nI x5)), (6, .int (nI x6))] [.int (nI (s.pr x6)), .int (nI x5)] h nx 0 0
  obtain ⟨c, V⟩ := V
  refine r_iremN dX10_part_49 c ?_
  obtain ⟨c, V⟩ := V
  refine r_if_neN (tgt := 85) dX10_part_50 (by decide) c (fun c => ?_) (fun c => ?_)
  · have V := V.1 c
    refine r_iincN 3 (b := 1) (L' := [(6, .int (nI (x6 + 1))), (0, .ref x0), (1, .int (nI x1)), (5, .int (nI x5))]) dX10_part_85 rfl rfl (by decide) rfl ?_
    refine r_goto (tgt := 26) dX10_part_88 (by decide) ?_
    exact Blk.sub [1, 2, 3, 0] rfl (V _ _ _ HO HM)
  · have V := V.2 c
    refine r_aload_n 0 dX10_part_53 rfl rfl ?_
    refine r_getf (ci := 11) (kf := 29) (T := TX10) rfl in_X10 (by decide) wF_X10_68 dX10_part_54 (MAt.o_ HM) rfl ?_
    refine r_sipush (v := (nI 168)) dX10_part_57 rfl ?_
    refine r_iload_n 1 dX10_part_60 rfl rfl ?_
    refine r_imulN dX10_part_61 ?_
    refine r_iload 3 dX10_part_62 rfl ?_
    refine r_iaddN dX10_part_64 ?_
    refine r_dup2_11 dX10_part_65 rfl rfl ?_
    obtain ⟨c, V⟩ := V
    refine r_iald dX10_part_66 (MAt.g_pw HM) rfl c (by decide) ?_
    show Blk g M_X10_part (pM x0 h0 nx Q) 67 [(0, .ref x0), (1, .int (nI x1)), (5, .int (nI x5)), (6, .int (nI x6))] [.int (nI (s.pw ((168 * x1) + x6))), .int (nI ((168 * x1) + x6)), .ref (x0 + 20)] h nx 0 0
    refine r_iconst (v := (nI 1)) dX10_part_67 rfl ?_
    refine r_iaddN dX10_part_68 ?_
    obtain ⟨c, V⟩ := V
    refine r_iastN dX10_part_69 (MAt.g_pw HM) c (by decide) ?_
    obtain ⟨hu1, eu1, HMu1, HOu1⟩ := mo_pw HM HO (va_up s.pw ((168 * x1) + x6) ((s.pw ((168 * x1) + x6)) + 1))
    refine Blk.eqs ?_ rfl rfl eu1
    replace HMu1 : MAt hu1 x0 (MV.u_pw s (va_up s.pw ((168 * x1) + x6) ((s.pw ((168 * x1) + x6)) + 1))) := HMu1
    show Blk g M_X10_part (pM x0 h0 nx Q) 70 [(0, .ref x0), (1, .int (nI x1)), (5, .int (nI x5)), (6, .int (nI x6))] [] hu1 nx 0 0
    refine r_iload 2 dX10_part_70 rfl ?_
    refine r_aload_n 0 dX10_part_72 rfl rfl ?_
    refine r_getf (ci := 11) (kf := 26) (T := TX10) rfl in_X10 (by decide) wF_X10_59 dX10_part_73 (MAt.o_ HMu1) rfl ?_
    show Blk g M_X10_part (pM x0 h0 nx Q) 76 [(0, .ref x0), (1, .int (nI x1)), (5, .int (nI x5)), (6, .int (nI x6))] [.ref (x0 + 17), .int (nI x5)] hu1 nx 0 0
    refine r_iload 3 dX10_part_76 rfl ?_
    obtain ⟨c, V⟩ := V
    refine r_iald dX10_part_78 (MAt.g_pr HMu1) rfl c (by decide) ?_
    show Blk g M_X10_part (pM x0 h0 nx Q) 79 [(0, .ref x0), (1, .int (nI x1)), (5, .int (nI x5)), (6, .int (nI x6))] [.int (nI (s.pr x6)), .int (nI x5)] hu1 nx 0 0
    obtain ⟨c, V⟩ := V
    refine r_idivN dX10_part_79 c ?_
    refine r_istore (L' := [(5, .int (nI (x5 / (s.pr x6)))), (0, .ref x0), (1, .int (nI x1)), (6, .int (nI x6))]) dX10_part_80 (by decide) rfl ?_
    refine r_goto (tgt := 40) dX10_part_82 (by decide) ?_
    exact Blk.sub [1, 2, 0, 3] rfl (V _ _ _ HOu1 HMu1)
set_option maxRecDepth 20000 in
theorem v_X10_align_0 {g : xG} {Q : mQ} {s : MV} {x0 : Nat} {x1 : Nat} {x2 : Nat} (V : BlkM g M_X10_align x0 Q 2 [(0, .ref x0), (1, .int (nI x1)), (2, .int (nI x2)), (3, .int (nI 0))] [] s) : BlkM g M_X10_align x0 Q 0 [(0, .ref x0), (1, .int (nI x1)), (2, .int (nI x2))] [] s := by
  intro h0 h nx HO HM
  refine r_iconst (v := (nI 0)) dX10_align_0 rfl ?_
  refine r_istore_n (L' := [(3, .int (nI 0)), (0, .ref x0), (1, .int (nI x1)), (2, .int (nI x2))]) dX10_align_1 rfl (by decide) rfl ?_
  exact Blk.sub [1, 2, 3, 0] rfl (V _ _ _ HO HM)
set_option maxRecDepth 20000 in
theorem v_X10_align_2 {g : xG} {Q : mQ} {s : MV} {x0 : Nat} {x1 : Nat} {x2 : Nat} {x3 : Nat} (V : ((x3 < 2 ^ 31 ∧ 168 < 2 ^ 31) ∧ ((168 ≤ x3 → (Q none s)) ∧ (x3 < 168 → BlkM g M_X10_align x0 Q 9 [(0, .ref x0), (1, .int (nI x1)), (2, .int (nI x2)), (3, .int (nI x3))] [] s)))) : BlkM g M_X10_align x0 Q 2 [(0, .ref x0), (1, .int (nI x1)), (2, .int (nI x2)), (3, .int (nI x3))] [] s := by
  intro h0 h nx HO HM
  refine r_iload_n 3 dX10_align_2 rfl rfl ?_
  refine r_sipush (v := (nI 168)) dX10_align_3 rfl ?_
  obtain ⟨c, V⟩ := V
  refine r_icmp_geN (tgt := 131) dX10_align_6 (by decide) c (fun c => ?_) (fun c => ?_)
  · have V := V.1 c
    exact r_vret dX10_align_131 rfl (by decide) (by decide) ⟨rfl, HO, _, HM, V⟩
  · have V := V.2 c
    exact Blk.sub [0, 1, 2, 3] rfl (V _ _ _ HO HM)
set_option maxRecDepth 20000 in
theorem v_X10_align_9 {g : xG} {Q : mQ} {s : MV} {x0 : Nat} {x1 : Nat} {x2 : Nat} {x3 : Nat} (V : (((168 * x1) + x3) < 14112 ∧ (((168 * x2) + x3) < 14112 ∧ (((s.pw ((168 * x1) + x3)) < 2 ^ 31 ∧ (s.pw ((168 * x2) + x3)) < 2 ^ 31) ∧ (((s.pw ((168 * x2) + x3)) ≤ (s.pw ((168 * x1) + x3)) → BlkM g M_X10_align x0 Q 67 [(0, .ref x0), (1, .int (nI x1)), (2, .int (nI x2)), (3, .int (nI x3))] [] s) ∧ ((s.pw ((168 * x1) + x3)) < (s.pw ((168 * x2) + x3)) → (x3 < 168 ∧ ((s.pr x3) < 2 ^ 31 ∧ (CtM g M_X10_times [.ref x0, .int (nI x1), .long (lN (s.pr x3))] x0 s (fun r s3 => r = none ∧ (((168 * x1) + x3) < 14112 ∧ (((168 * x1) + x3) < 14112 ∧ BlkM g M_X10_align x0 Q 9 [(0, .ref x0), (1, .int (nI x1)), (2, .int (nI x2)), (3, .int (nI x3))] [] (MV.u_pw s3 (va_up s3.pw ((168 * x1) + x3) ((s3.pw ((168 * x1) + x3)) + 1))))))))))))))) : BlkM g M_X10_align x0 Q 9 [(0, .ref x0), (1, .int (nI x1)), (2, .int (nI x2)), (3, .int (nI x3))] [] s := by
  intro h0 h nx HO HM
  refine r_aload_n 0 dX10_align_9 rfl rfl ?_
  refine r_getf (ci := 11) (kf := 29) (T := TX10) rfl in_X10 (by decide) wF_X10_68 dX10_align_10 (MAt.o_ HM) rfl ?_
  refine r_sipush (v := (nI 168)) dX10_align_13 rfl ?_
  refine r_iload_n 1 dX10_align_16 rfl rfl ?_
  refine r_imulN dX10_align_17 ?_
  refine r_iload_n 3 dX10_align_18 rfl rfl ?_
  refine r_iaddN dX10_align_19 ?_
  obtain ⟨c, V⟩ := V
  refine r_iald dX10_align_20 (MAt.g_pw HM) rfl c (by decide) ?_
  show Blk g M_X10_align (pM x0 h0 nx Q) 21 [(0, .ref x0), (1, .int (nI x1)), (2, .int (nI x2)), (3, .int (nI x3))] [.int (nI (s.pw ((168 * x1) + x3)))] h nx 0 0
  refine r_aload_n 0 dX10_align_21 rfl rfl ?_
  refine r_getf (ci := 11) (kf := 29) (T := TX10) rfl in_X10 (by decide) wF_X10_68 dX10_align_22 (MAt.o_ HM) rfl ?_
  refine r_sipush (v := (nI 168)) dX10_align_25 rfl ?_
  refine r_iload_n 2 dX10_align_28 rfl rfl ?_
  refine r_imulN dX10_align_29 ?_
  refine r_iload_n 3 dX10_align_30 rfl rfl ?_
  refine r_iaddN dX10_align_31 ?_
  obtain ⟨c, V⟩ := V
  refine r_iald dX10_align_32 (MAt.g_pw HM) rfl c (by decide) ?_
  show Blk g M_X10_align (pM x0 h0 nx Q) 33 [(0, .ref x0), (1, .int (nI x1)), (2, .int (nI x2)), (3, .int (nI x3))] [.int (nI (s.pw ((168 * x2) + x3))), .int (nI (s.pw ((168 * x1) + x3)))] h nx 0 0
  obtain ⟨c, V⟩ := V
  refine r_icmp_geN (tgt := 67) dX10_align_33 (by decide) c (fun c => ?_) (fun c => ?_)
  · have V := V.1 c
    exact Blk.sub [0, 1, 2, 3] rfl (V _ _ _ HO HM)
  · have V := V.2 c
    refine r_aload_n 0 dX10_align_36 rfl rfl ?_
    refine r_iload_n 1 dX10_align_37 rfl rfl ?_
    refine r_aload_n 0 dX10_align_38 rfl rfl ?_
    refine r_getf (ci := 11) (kf := 26) (T := TX10) rfl in_X10 (by decide) wF_X10_59 dX10_align_39 (MAt.o_ HM) rfl ?_
    refine r_iload_n 3 dX10_align_42 rfl rfl ?_
    obtain ⟨c, V⟩ := V
    refine r_iald dX10_align_43 (MAt.g_pr HM) rfl c (by decide) ?_
    show Blk g M_X10_align (pM x0 h0 nx Q) 44 [(0, .ref x0), (1, .int (nI x1)), (2, .int (nI x2)), (3, .int (nI x3))] [.int (nI (s.pr x3)), .int (nI x1), .ref x0] h nx 0 0
    obtain ⟨c, V⟩ := V
    refine r_i2lN dX10_align_44 c ?_
    refine r_callV (M2 := M_X10_times) (ci := 11) (n := 2) (As := [.int (nI x1), .long (lN (s.pr x3))]) rfl (wl5 wM_X10_88 wi_X10_times wS_X10_times wI_StateSharesModel wc_X10_times) (by decide +kernel) (by decide) rfl rfl (Nat.le_of_ble_eq_true rfl) dX10_align_45 (MAt.o_ HM) (by decide) (by decide) (Ct.imp (V _ _ HM) (fun r h1 n2 V => ?_))
    obtain ⟨rfl, Oh1, s3, HMh1, V⟩ := V
    have HOh1 := Off.tr HO Oh1
    obtain ⟨rfl, V⟩ := V
    show Blk g M_X10_align (pM x0 h0 nx Q) 48 [(0, .ref x0), (1, .int (nI x1)), (2, .int (nI x2)), (3, .int (nI x3))] [] h1 nx 0 0
    refine r_aload_n 0 dX10_align_48 rfl rfl ?_
    refine r_getf (ci := 11) (kf := 29) (T := TX10) rfl in_X10 (by decide) wF_X10_68 dX10_align_49 (MAt.o_ HMh1) rfl ?_
    refine r_sipush (v := (nI 168)) dX10_align_52 rfl ?_
    refine r_iload_n 1 dX10_align_55 rfl rfl ?_
    refine r_imulN dX10_align_56 ?_
    refine r_iload_n 3 dX10_align_57 rfl rfl ?_
    refine r_iaddN dX10_align_58 ?_
    refine r_dup2_11 dX10_align_59 rfl rfl ?_
    obtain ⟨c, V⟩ := V
    refine r_iald dX10_align_60 (MAt.g_pw HMh1) rfl c (by decide) ?_
    show Blk g M_X10_align (pM x0 h0 nx Q) 61 [(0, .ref x0), (1, .int (nI x1)), (2, .int (nI x2)), (3, .int (nI x3))] [.int (nI (s3.pw ((168 * x1) + x3))), .int (nI ((168 * x1) + x3)), .ref (x0 + 20)] h1 nx 0 0
    refine r_iconst (v := (nI 1)) dX10_align_61 rfl ?_
    refine r_iaddN dX10_align_62 ?_
    obtain ⟨c, V⟩ := V
    refine r_iastN dX10_align_63 (MAt.g_pw HMh1) c (by decide) ?_
    obtain ⟨hu4, eu4, HMu4, HOu4⟩ := mo_pw HMh1 HOh1 (va_up s3.pw ((168 * x1) + x3) ((s3.pw ((168 * x1) + x3)) + 1))
    refine Blk.eqs ?_ rfl rfl eu4
    replace HMu4 : MAt hu4 x0 (MV.u_pw s3 (va_up s3.pw ((168 * x1) + x3) ((s3.pw ((168 * x1) + x3)) + 1))) := HMu4
    show Blk g M_X10_align (pM x0 h0 nx Q) 64 [(0, .ref x0), (1, .int (nI x1)), (2, .int (nI x2)), (3, .int (nI x3))] [] hu4 nx 0 0
    refine r_goto (tgt := 9) dX10_align_64 (by decide) ?_
    exact Blk.sub [0, 1, 2, 3] rfl (V _ _ _ HOu4 HMu4)
set_option maxRecDepth 20000 in
theorem v_X10_align_67 {g : xG} {Q : mQ} {s : MV} {x0 : Nat} {x1 : Nat} {x2 : Nat} {x3 : Nat} (V : (((168 * x2) + x3) < 14112 ∧ (((168 * x1) + x3) < 14112 ∧ (((s.pw ((168 * x2) + x3)) < 2 ^ 31 ∧ (s.pw ((168 * x1) + x3)) < 2 ^ 31) ∧ (((s.pw ((168 * x1) + x3)) ≤ (s.pw ((168 * x2) + x3)) → BlkM g M_X10_align x0 Q 2 [(0, .ref x0), (1, .int (nI x1)), (2, .int (nI x2)), (3, .int (nI (x3 + 1)))] [] s) ∧ ((s.pw ((168 * x2) + x3)) < (s.pw ((168 * x1) + x3)) → (x3 < 168 ∧ ((s.pr x3) < 2 ^ 31 ∧ (CtM g M_X10_times [.ref x0, .int (nI x2), .long (lN (s.pr x3))] x0 s (fun r s3 => r = none ∧ (((168 * x2) + x3) < 14112 ∧ (((168 * x2) + x3) < 14112 ∧ BlkM g M_X10_align x0 Q 67 [(0, .ref x0), (1, .int (nI x1)), (2, .int (nI x2)), (3, .int (nI x3))] [] (MV.u_pw s3 (va_up s3.pw ((168 * x2) + x3) ((s3.pw ((168 * x2) + x3)) + 1))))))))))))))) : BlkM g M_X10_align x0 Q 67 [(0, .ref x0), (1, .int (nI x1)), (2, .int (nI x2)), (3, .int (nI x3))] [] s := by
  intro h0 h nx HO HM
  refine r_aload_n 0 dX10_align_67 rfl rfl ?_
  refine r_getf (ci := 11) (kf := 29) (T := TX10) rfl in_X10 (by decide) wF_X10_68 dX10_align_68 (MAt.o_ HM) rfl ?_
  refine r_sipush (v := (nI 168)) dX10_align_71 rfl ?_
  refine r_iload_n 2 dX10_align_74 rfl rfl ?_
  refine r_imulN dX10_align_75 ?_
  refine r_iload_n 3 dX10_align_76 rfl rfl ?_
  refine r_iaddN dX10_align_77 ?_
  obtain ⟨c, V⟩ := V
  refine r_iald dX10_align_78 (MAt.g_pw HM) rfl c (by decide) ?_
  show Blk g M_X10_align (pM x0 h0 nx Q) 79 [(0, .ref x0), (1, .int (nI x1)), (2, .int (nI x2)), (3, .int (nI x3))] [.int (nI (s.pw ((168 * x2) + x3)))] h nx 0 0
  refine r_aload_n 0 dX10_align_79 rfl rfl ?_
  refine r_getf (ci := 11) (kf := 29) (T := TX10) rfl in_X10 (by decide) wF_X10_68 dX10_align_80 (MAt.o_ HM) rfl ?_
  refine r_sipush (v := (nI 168)) dX10_align_83 rfl ?_
  refine r_iload_n 1 dX10_align_86 rfl rfl ?_
  refine r_imulN dX10_align_87 ?_
  refine r_iload_n 3 dX10_align_88 rfl rfl ?_
  refine r_iaddN dX10_align_89 ?_
  obtain ⟨c, V⟩ := V
  refine r_iald dX10_align_90 (MAt.g_pw HM) rfl c (by decide) ?_
  show Blk g M_X10_align (pM x0 h0 nx Q) 91 [(0, .ref x0), (1, .int (nI x1)), (2, .int (nI x2)), (3, .int (nI x3))] [.int (nI (s.pw ((168 * x1) + x3))), .int (nI (s.pw ((168 * x2) + x3)))] h nx 0 0
  obtain ⟨c, V⟩ := V
  refine r_icmp_geN (tgt := 125) dX10_align_91 (by decide) c (fun c => ?_) (fun c => ?_)
  · have V := V.1 c
    refine r_iincN 3 (b := 1) (L' := [(3, .int (nI (x3 + 1))), (0, .ref x0), (1, .int (nI x1)), (2, .int (nI x2))]) dX10_align_125 rfl rfl (by decide) rfl ?_
    refine r_goto (tgt := 2) dX10_align_128 (by decide) ?_
    exact Blk.sub [1, 2, 3, 0] rfl (V _ _ _ HO HM)
  · have V := V.2 c
    refine r_aload_n 0 dX10_align_94 rfl rfl ?_
    refine r_iload_n 2 dX10_align_95 rfl rfl ?_
    refine r_aload_n 0 dX10_align_96 rfl rfl ?_
    refine r_getf (ci := 11) (kf := 26) (T := TX10) rfl in_X10 (by decide) wF_X10_59 dX10_align_97 (MAt.o_ HM) rfl ?_
    refine r_iload_n 3 dX10_align_100 rfl rfl ?_
    obtain ⟨c, V⟩ := V
    refine r_iald dX10_align_101 (MAt.g_pr HM) rfl c (by decide) ?_
    show Blk g M_X10_align (pM x0 h0 nx Q) 102 [(0, .ref x0), (1, .int (nI x1)), (2, .int (nI x2)), (3, .int (nI x3))] [.int (nI (s.pr x3)), .int (nI x2), .ref x0] h nx 0 0
    obtain ⟨c, V⟩ := V
    refine r_i2lN dX10_align_102 c ?_
    refine r_callV (M2 := M_X10_times) (ci := 11) (n := 2) (As := [.int (nI x2), .long (lN (s.pr x3))]) rfl (wl5 wM_X10_88 wi_X10_times wS_X10_times wI_StateSharesModel wc_X10_times) (by decide +kernel) (by decide) rfl rfl (Nat.le_of_ble_eq_true rfl) dX10_align_103 (MAt.o_ HM) (by decide) (by decide) (Ct.imp (V _ _ HM) (fun r h1 n2 V => ?_))
    obtain ⟨rfl, Oh1, s3, HMh1, V⟩ := V
    have HOh1 := Off.tr HO Oh1
    obtain ⟨rfl, V⟩ := V
    show Blk g M_X10_align (pM x0 h0 nx Q) 106 [(0, .ref x0), (1, .int (nI x1)), (2, .int (nI x2)), (3, .int (nI x3))] [] h1 nx 0 0
    refine r_aload_n 0 dX10_align_106 rfl rfl ?_
    refine r_getf (ci := 11) (kf := 29) (T := TX10) rfl in_X10 (by decide) wF_X10_68 dX10_align_107 (MAt.o_ HMh1) rfl ?_
    refine r_sipush (v := (nI 168)) dX10_align_110 rfl ?_
    refine r_iload_n 2 dX10_align_113 rfl rfl ?_
    refine r_imulN dX10_align_114 ?_
    refine r_iload_n 3 dX10_align_115 rfl rfl ?_
    refine r_iaddN dX10_align_116 ?_
    refine r_dup2_11 dX10_align_117 rfl rfl ?_
    obtain ⟨c, V⟩ := V
    refine r_iald dX10_align_118 (MAt.g_pw HMh1) rfl c (by decide) ?_
    show Blk g M_X10_align (pM x0 h0 nx Q) 119 [(0, .ref x0), (1, .int (nI x1)), (2, .int (nI x2)), (3, .int (nI x3))] [.int (nI (s3.pw ((168 * x2) + x3))), .int (nI ((168 * x2) + x3)), .ref (x0 + 20)] h1 nx 0 0
    refine r_iconst (v := (nI 1)) dX10_align_119 rfl ?_
    refine r_iaddN dX10_align_120 ?_
    obtain ⟨c, V⟩ := V
    refine r_iastN dX10_align_121 (MAt.g_pw HMh1) c (by decide) ?_
    obtain ⟨hu4, eu4, HMu4, HOu4⟩ := mo_pw HMh1 HOh1 (va_up s3.pw ((168 * x2) + x3) ((s3.pw ((168 * x2) + x3)) + 1))
    refine Blk.eqs ?_ rfl rfl eu4
    replace HMu4 : MAt hu4 x0 (MV.u_pw s3 (va_up s3.pw ((168 * x2) + x3) ((s3.pw ((168 * x2) + x3)) + 1))) := HMu4
    show Blk g M_X10_align (pM x0 h0 nx Q) 122 [(0, .ref x0), (1, .int (nI x1)), (2, .int (nI x2)), (3, .int (nI x3))] [] hu4 nx 0 0
    refine r_goto (tgt := 67) dX10_align_122 (by decide) ?_
    exact Blk.sub [0, 1, 2, 3] rfl (V _ _ _ HOu4 HMu4)
set_option maxRecDepth 20000 in
theorem v_X10_add_0 {g : xG} {Q : mQ} {s : MV} {x0 : Nat} {x1 : Nat} {x2 : Nat} (V : (CtM g M_X10_copy [.ref x0, .int (nI x2), .int (nI 72)] x0 s (fun r s3 => r = none ∧ (CtM g M_X10_align [.ref x0, .int (nI x1), .int (nI 72)] x0 s3 (fun r s6 => r = none ∧ (x1 < 84 ∧ (72 < 84 ∧ (((s6.ln x1) < 2 ^ 31 ∧ (s6.ln 72) < 2 ^ 31) ∧ (((s6.ln x1) ≤ (s6.ln 72) → (72 < 84 ∧ BlkM g M_X10_add x0 Q 53 [(0, .ref x0), (1, .int (nI x1)), (3, .int (nI (s6.ln 72))), (4, .long (lN 0)), (6, .int (nI 0))] [] s6)) ∧ ((s6.ln 72) < (s6.ln x1) → (x1 < 84 ∧ BlkM g M_X10_add x0 Q 53 [(0, .ref x0), (1, .int (nI x1)), (3, .int (nI (s6.ln x1))), (4, .long (lN 0)), (6, .int (nI 0))] [] s6))))))))))) : BlkM g M_X10_add x0 Q 0 [(0, .ref x0), (1, .int (nI x1)), (2, .int (nI x2))] [] s := by
  intro h0 h nx HO HM
  refine r_aload_n 0 dX10_add_0 rfl rfl ?_
  refine r_iload_n 2 dX10_add_1 rfl rfl ?_
  refine r_bipush (v := (nI 72)) dX10_add_2 rfl ?_
  refine r_callV (M2 := M_X10_copy) (ci := 11) (n := 2) (As := [.int (nI x2), .int (nI 72)]) rfl (wl5 wM_X10_232 wi_X10_copy wS_X10_copy wI_StateSharesModel wc_X10_copy) (by decide +kernel) (by decide) rfl rfl (Nat.le_of_ble_eq_true rfl) dX10_add_4 (MAt.o_ HM) (by decide) (by decide) (Ct.imp (V _ _ HM) (fun r h1 n2 V => ?_))
  obtain ⟨rfl, Oh1, s3, HMh1, V⟩ := V
  have HOh1 := Off.tr HO Oh1
  obtain ⟨rfl, V⟩ := V
  show Blk g M_X10_add (pM x0 h0 nx Q) 7 [(0, .ref x0), (1, .int (nI x1)), (2, .int (nI x2))] [] h1 nx 0 0
  refine r_aload_n 0 dX10_add_7 rfl rfl ?_
  refine r_iload_n 1 dX10_add_8 rfl rfl ?_
  refine r_bipush (v := (nI 72)) dX10_add_9 rfl ?_
  refine r_callV (M2 := M_X10_align) (ci := 11) (n := 2) (As := [.int (nI x1), .int (nI 72)]) rfl (wl5 wM_X10_236 wi_X10_align wS_X10_align wI_StateSharesModel wc_X10_align) (by decide +kernel) (by decide) rfl rfl (Nat.le_of_ble_eq_true rfl) dX10_add_11 (MAt.o_ HMh1) (by decide) (by decide) (Ct.imp (V _ _ HMh1) (fun r h4 n5 V => ?_))
  obtain ⟨rfl, Oh4, s6, HMh4, V⟩ := V
  have HOh4 := Off.tr HOh1 Oh4
  obtain ⟨rfl, V⟩ := V
  show Blk g M_X10_add (pM x0 h0 nx Q) 14 [(0, .ref x0), (1, .int (nI x1)), (2, .int (nI x2))] [] h4 nx 0 0
  refine r_aload_n 0 dX10_add_14 rfl rfl ?_
  refine r_getf (ci := 11) (kf := 28) (T := TX10) rfl in_X10 (by decide) wF_X10_65 dX10_add_15 (MAt.o_ HMh4) rfl ?_
  refine r_iload_n 1 dX10_add_18 rfl rfl ?_
  obtain ⟨c, V⟩ := V
  refine r_iald dX10_add_19 (MAt.g_ln HMh4) rfl c (by decide) ?_
  show Blk g M_X10_add (pM x0 h0 nx Q) 20 [(0, .ref x0), (1, .int (nI x1)), (2, .int (nI x2))] [.int (nI (s6.ln x1))] h4 nx 0 0
  refine r_aload_n 0 dX10_add_20 rfl rfl ?_
  refine r_getf (ci := 11) (kf := 28) (T := TX10) rfl in_X10 (by decide) wF_X10_65 dX10_add_21 (MAt.o_ HMh4) rfl ?_
  refine r_bipush (v := (nI 72)) dX10_add_24 rfl ?_
  obtain ⟨c, V⟩ := V
  refine r_iald dX10_add_26 (MAt.g_ln HMh4) rfl c (by decide) ?_
  show Blk g M_X10_add (pM x0 h0 nx Q) 27 [(0, .ref x0), (1, .int (nI x1)), (2, .int (nI x2))] [.int (nI (s6.ln 72)), .int (nI (s6.ln x1))] h4 nx 0 0
  obtain ⟨c, V⟩ := V
  refine r_icmp_leN (tgt := 39) dX10_add_27 (by decide) c (fun c => ?_) (fun c => ?_)
  · have V := V.1 c
    refine r_aload_n 0 dX10_add_39 rfl rfl ?_
    refine r_getf (ci := 11) (kf := 28) (T := TX10) rfl in_X10 (by decide) wF_X10_65 dX10_add_40 (MAt.o_ HMh4) rfl ?_
    refine r_bipush (v := (nI 72)) dX10_add_43 rfl ?_
    obtain ⟨c, V⟩ := V
    refine r_iald dX10_add_45 (MAt.g_ln HMh4) rfl c (by decide) ?_
    show Blk g M_X10_add (pM x0 h0 nx Q) 46 [(0, .ref x0), (1, .int (nI x1)), (2, .int (nI x2))] [.int (nI (s6.ln 72))] h4 nx 0 0
    refine r_istore_n (L' := [(3, .int (nI (s6.ln 72))), (0, .ref x0), (1, .int (nI x1)), (2, .int (nI x2))]) dX10_add_46 rfl (by decide) rfl ?_
    refine r_lconst (v := (lN 0)) dX10_add_47 rfl ?_
    refine r_lstore (L' := [(4, .long (lN 0)), (3, .int (nI (s6.ln 72))), (0, .ref x0), (1, .int (nI x1)), (2, .int (nI x2))]) dX10_add_48 (by decide) rfl ?_
    refine r_iconst (v := (nI 0)) dX10_add_50 rfl ?_
    refine r_istore (L' := [(6, .int (nI 0)), (4, .long (lN 0)), (3, .int (nI (s6.ln 72))), (0, .ref x0), (1, .int (nI x1)), (2, .int (nI x2))]) dX10_add_51 (by decide) rfl ?_
    exact Blk.sub [3, 4, 2, 1, 0] rfl (V _ _ _ HOh4 HMh4)
  · have V := V.2 c
    refine r_aload_n 0 dX10_add_30 rfl rfl ?_
    refine r_getf (ci := 11) (kf := 28) (T := TX10) rfl in_X10 (by decide) wF_X10_65 dX10_add_31 (MAt.o_ HMh4) rfl ?_
    refine r_iload_n 1 dX10_add_34 rfl rfl ?_
    obtain ⟨c, V⟩ := V
    refine r_iald dX10_add_35 (MAt.g_ln HMh4) rfl c (by decide) ?_
    show Blk g M_X10_add (pM x0 h0 nx Q) 36 [(0, .ref x0), (1, .int (nI x1)), (2, .int (nI x2))] [.int (nI (s6.ln x1))] h4 nx 0 0
    refine r_goto (tgt := 46) dX10_add_36 (by decide) ?_
    refine r_istore_n (L' := [(3, .int (nI (s6.ln x1))), (0, .ref x0), (1, .int (nI x1)), (2, .int (nI x2))]) dX10_add_46 rfl (by decide) rfl ?_
    refine r_lconst (v := (lN 0)) dX10_add_47 rfl ?_
    refine r_lstore (L' := [(4, .long (lN 0)), (3, .int (nI (s6.ln x1))), (0, .ref x0), (1, .int (nI x1)), (2, .int (nI x2))]) dX10_add_48 (by decide) rfl ?_
    refine r_iconst (v := (nI 0)) dX10_add_50 rfl ?_
    refine r_istore (L' := [(6, .int (nI 0)), (4, .long (lN 0)), (3, .int (nI (s6.ln x1))), (0, .ref x0), (1, .int (nI x1)), (2, .int (nI x2))]) dX10_add_51 (by decide) rfl ?_
    exact Blk.sub [3, 4, 2, 1, 0] rfl (V _ _ _ HOh4 HMh4)
set_option maxRecDepth 20000 in
theorem v_X10_add_53 {g : xG} {Q : mQ} {s : MV} {x0 : Nat} {x1 : Nat} {x3 : Nat} {x4 : Nat} {x6 : Nat} (V : ((x6 < 2 ^ 31 ∧ x3 < 2 ^ 31) ∧ ((x3 ≤ x6 → (((160 * x1) + x3) < 13440 ∧ (x1 < 84 ∧ (CtM g M_X10_trim [.ref x0, .int (nI x1)] x0 (MV.u_ln (MV.u_lb s (va_up s.lb ((160 * x1) + x3) x4)) (va_up s.ln x1 (x3 + 1))) (fun r s5 => r = none ∧ (CtM g M_X10_reduce [.ref x0, .int (nI x1)] x0 s5 (fun r s8 => r = none ∧ (Q none s8)))))))) ∧ (x6 < x3 → (x1 < 84 ∧ ((x6 < 2 ^ 31 ∧ (s.ln x1) < 2 ^ 31) ∧ (((s.ln x1) ≤ x6 → (72 < 84 ∧ ((x6 < 2 ^ 31 ∧ (s.ln 72) < 2 ^ 31) ∧ (((s.ln 72) ≤ x6 → ((((x4 + 0) + 0) < 2 ^ 63 ∧ 0 < 1000000000 ∧ 1000000000 < 2 ^ 63) ∧ (((160 * x1) + x6) < 13440 ∧ ((((x4 + 0) + 0) < 2 ^ 63 ∧ 0 < 1000000000 ∧ 1000000000 < 2 ^ 63) ∧ BlkM g M_X10_add x0 Q 53 [(0, .ref x0), (1, .int (nI x1)), (3, .int (nI x3)), (4, .long (lN (((x4 + 0) + 0) / 1000000000))), (6, .int (nI (x6 + 1)))] [] (MV.u_lb s (va_up s.lb ((160 * x1) + x6) (((x4 + 0) + 0) % 1000000000))))))) ∧ (x6 < (s.ln 72) → ((11520 + x6) < 13440 ∧ ((((x4 + 0) + (s.lb (11520 + x6))) < 2 ^ 63 ∧ 0 < 1000000000 ∧ 1000000000 < 2 ^ 63) ∧ (((160 * x1) + x6) < 13440 ∧ ((((x4 + 0) + (s.lb (11520 + x6))) < 2 ^ 63 ∧ 0 < 1000000000 ∧ 1000000000 < 2 ^ 63) ∧ BlkM g M_X10_add x0 Q 53 [(0, .ref x0), (1, .int (nI x1)), (3, .int (nI x3)), (4, .long (lN (((x4 + 0) + (s.lb (11520 + x6))) / 1000000000))), (6, .int (nI (x6 + 1)))] [] (MV.u_lb s (va_up s.lb ((160 * x1) + x6) (((x4 + 0) + (s.lb (11520 + x6))) % 1000000000)))))))))))) ∧ (x6 < (s.ln x1) → (((160 * x1) + x6) < 13440 ∧ (72 < 84 ∧ ((x6 < 2 ^ 31 ∧ (s.ln 72) < 2 ^ 31) ∧ (((s.ln 72) ≤ x6 → ((((x4 + (s.lb ((160 * x1) + x6))) + 0) < 2 ^ 63 ∧ 0 < 1000000000 ∧ 1000000000 < 2 ^ 63) ∧ (((160 * x1) + x6) < 13440 ∧ ((((x4 + (s.lb ((160 * x1) + x6))) + 0) < 2 ^ 63 ∧ 0 < 1000000000 ∧ 1000000000 < 2 ^ 63) ∧ BlkM g M_X10_add x0 Q 53 [(0, .ref x0), (1, .int (nI x1)), (3, .int (nI x3)), (4, .long (lN (((x4 + (s.lb ((160 * x1) + x6))) + 0) / 1000000000))), (6, .int (nI (x6 + 1)))] [] (MV.u_lb s (va_up s.lb ((160 * x1) + x6) (((x4 + (s.lb ((160 * x1) + x6))) + 0) % 1000000000))))))) ∧ (x6 < (s.ln 72) → ((11520 + x6) < 13440 ∧ ((((x4 + (s.lb ((160 * x1) + x6))) + (s.lb (11520 + x6))) < 2 ^ 63 ∧ 0 < 1000000000 ∧ 1000000000 < 2 ^ 63) ∧ (((160 * x1) + x6) < 13440 ∧ ((((x4 + (s.lb ((160 * x1) + x6))) + (s.lb (11520 + x6))) < 2 ^ 63 ∧ 0 < 1000000000 ∧ 1000000000 < 2 ^ 63) ∧ BlkM g M_X10_add x0 Q 53 [(0, .ref x0), (1, .int (nI x1)), (3, .int (nI x3)), (4, .long (lN (((x4 + (s.lb ((160 * x1) + x6))) + (s.lb (11520 + x6))) / 1000000000))), (6, .int (nI (x6 + 1)))] [] (MV.u_lb s (va_up s.lb ((160 * x1) + x6) (((x4 + (s.lb ((160 * x1) + x6))) + (s.lb (11520 + x6))) % 1000000000)))))))))))))))))))) : BlkM g M_X10_add x0 Q 53 [(0, .ref x0), (1, .int (nI x1)), (3, .int (nI x3)), (4, .long (lN x4)), (6, .int (nI x6))] [] s := by
  intro h0 h nx HO HM
  refine r_iload 4 dX10_add_53 rfl ?_
  refine r_iload_n 2 dX10_add_55 rfl rfl ?_
  obtain ⟨c, V⟩ := V
  refine r_icmp_geN (tgt := 153) dX10_add_56 (by decide) c (fun c => ?_) (fun c => ?_)
  · have V := V.1 c
    refine r_aload_n 0 dX10_add_153 rfl rfl ?_
    refine r_getf (ci := 11) (kf := 27) (T := TX10) rfl in_X10 (by decide) wF_X10_62 dX10_add_154 (MAt.o_ HM) rfl ?_
    refine r_sipush (v := (nI 160)) dX10_add_157 rfl ?_
    refine r_iload_n 1 dX10_add_160 rfl rfl ?_
    refine r_imulN dX10_add_161 ?_
    refine r_iload_n 2 dX10_add_162 rfl rfl ?_
    refine r_iaddN dX10_add_163 ?_
    refine r_lload 3 dX10_add_164 rfl ?_
    obtain ⟨c, V⟩ := V
    refine r_lastN dX10_add_166 (MAt.g_lb HM) c (by decide) ?_
    obtain ⟨hu1, eu1, HMu1, HOu1⟩ := mo_lb HM HO (va_up s.lb ((160 * x1) + x3) x4)
    refine Blk.eqs ?_ rfl rfl eu1
    replace HMu1 : MAt hu1 x0 (MV.u_lb s (va_up s.lb ((160 * x1) + x3) x4)) := HMu1
    show Blk g M_X10_add (pM x0 h0 nx Q) 167 [(0, .ref x0), (1, .int (nI x1)), (3, .int (nI x3)), (4, .long (lN x4)), (6, .int (nI x6))] [] hu1 nx 0 0
    refine r_aload_n 0 dX10_add_167 rfl rfl ?_
    refine r_getf (ci := 11) (kf := 28) (T := TX10) rfl in_X10 (by decide) wF_X10_65 dX10_add_168 (MAt.o_ HMu1) rfl ?_
    show Blk g M_X10_add (pM x0 h0 nx Q) 171 [(0, .ref x0), (1, .int (nI x1)), (3, .int (nI x3)), (4, .long (lN x4)), (6, .int (nI x6))] [.ref (x0 + 19)] hu1 nx 0 0
    refine r_iload_n 1 dX10_add_171 rfl rfl ?_
    refine r_iload_n 2 dX10_add_172 rfl rfl ?_
    refine r_iconst (v := (nI 1)) dX10_add_173 rfl ?_
    refine r_iaddN dX10_add_174 ?_
    obtain ⟨c, V⟩ := V
    refine r_iastN dX10_add_175 (MAt.g_ln HMu1) c (by decide) ?_
    obtain ⟨hu2, eu2, HMu2, HOu2⟩ := mo_ln HMu1 HOu1 (va_up s.ln x1 (x3 + 1))
    refine Blk.eqs ?_ rfl rfl eu2
    replace HMu2 : MAt hu2 x0 (MV.u_ln (MV.u_lb s (va_up s.lb ((160 * x1) + x3) x4)) (va_up s.ln x1 (x3 + 1))) := HMu2
    show Blk g M_X10_add (pM x0 h0 nx Q) 176 [(0, .ref x0), (1, .int (nI x1)), (3, .int (nI x3)), (4, .long (lN x4)), (6, .int (nI x6))] [] hu2 nx 0 0
    refine r_aload_n 0 dX10_add_176 rfl rfl ?_
    refine r_iload_n 1 dX10_add_177 rfl rfl ?_
    refine r_callV (M2 := M_X10_trim) (ci := 11) (n := 1) (As := [.int (nI x1)]) rfl (wl5 wM_X10_219 wi_X10_trim wS_X10_trim wI_StateSharesModel wc_X10_trim) (by decide +kernel) (by decide) rfl rfl (Nat.le_of_ble_eq_true rfl) dX10_add_178 (MAt.o_ HMu2) (by decide) (by decide) (Ct.imp (V _ _ HMu2) (fun r h3 n4 V => ?_))
    obtain ⟨rfl, Oh3, s5, HMh3, V⟩ := V
    have HOh3 := Off.tr HOu2 Oh3
    obtain ⟨rfl, V⟩ := V
    show Blk g M_X10_add (pM x0 h0 nx Q) 181 [(0, .ref x0), (1, .int (nI x1)), (3, .int (nI x3)), (4, .long (lN x4)), (6, .int (nI x6))] [] h3 nx 0 0
    refine r_aload_n 0 dX10_add_181 rfl rfl ?_
    refine r_iload_n 1 dX10_add_182 rfl rfl ?_
    refine r_callV (M2 := M_X10_reduce) (ci := 11) (n := 1) (As := [.int (nI x1)]) rfl (wl5 wM_X10_229 wi_X10_reduce wS_X10_reduce wI_StateSharesModel wc_X10_reduce) (by decide +kernel) (by decide) rfl rfl (Nat.le_of_ble_eq_true rfl) dX10_add_183 (MAt.o_ HMh3) (by decide) (by decide) (Ct.imp (V _ _ HMh3) (fun r h6 n7 V => ?_))
    obtain ⟨rfl, Oh6, s8, HMh6, V⟩ := V
    have HOh6 := Off.tr HOh3 Oh6
    obtain ⟨rfl, V⟩ := V
    show Blk g M_X10_add (pM x0 h0 nx Q) 186 [(0, .ref x0), (1, .int (nI x1)), (3, .int (nI x3)), (4, .long (lN x4)), (6, .int (nI x6))] [] h6 nx 0 0
    exact r_vret dX10_add_186 rfl (by decide) (by decide) ⟨rfl, HOh6, _, HMh6, V⟩
  · have V := V.2 c
    refine r_lload 3 dX10_add_59 rfl ?_
    refine r_iload 4 dX10_add_61 rfl ?_
    refine r_aload_n 0 dX10_add_63 rfl rfl ?_
    refine r_getf (ci := 11) (kf := 28) (T := TX10) rfl in_X10 (by decide) wF_X10_65 dX10_add_64 (MAt.o_ HM) rfl ?_
    refine r_iload_n 1 dX10_add_67 rfl rfl ?_
    obtain ⟨c, V⟩ := V
    refine r_iald dX10_add_68 (MAt.g_ln HM) rfl c (by decide) ?_
    show Blk g M_X10_add (pM x0 h0 nx Q) 69 [(0, .ref x0), (1, .int (nI x1)), (3, .int (nI x3)), (4, .long (lN x4)), (6, .int (nI x6))] [.int (nI (s.ln x1)), .int (nI x6), .long (lN x4)] h nx 0 0
    obtain ⟨c, V⟩ := V
    refine r_icmp_geN (tgt := 88) dX10_add_69 (by decide) c (fun c => ?_) (fun c => ?_)
    · have V := V.1 c
      refine r_lconst (v := (lN 0)) dX10_add_88 rfl ?_
      refine r_laddN dX10_add_89 ?_
      refine r_iload 4 dX10_add_90 rfl ?_
      refine r_aload_n 0 dX10_add_92 rfl rfl ?_
      refine r_getf (ci := 11) (kf := 28) (T := TX10) rfl in_X10 (by decide) wF_X10_65 dX10_add_93 (MAt.o_ HM) rfl ?_
      refine r_bipush (v := (nI 72)) dX10_add_96 rfl ?_
      obtain ⟨c, V⟩ := V
      refine r_iald dX10_add_98 (MAt.g_ln HM) rfl c (by decide) ?_
      show Blk g M_X10_add (pM x0 h0 nx Q) 99 [(0, .ref x0), (1, .int (nI x1)), (3, .int (nI x3)), (4, .long (lN x4)), (6, .int (nI x6))] [.int (nI (s.ln 72)), .int (nI x6), .long (lN (x4 + 0))] h nx 0 0
      obtain ⟨c, V⟩ := V
      refine r_icmp_geN (tgt := 116) dX10_add_99 (by decide) c (fun c => ?_) (fun c => ?_)
      · have V := V.1 c
        refine r_lconst (v := (lN 0)) dX10_add_116 rfl ?_
        refine r_laddN dX10_add_117 ?_
        refine r_lstore (L' := [(7, .long (lN ((x4 + 0) + 0))), (0, .ref x0), (1, .int (nI x1)), (3, .int (nI x3)), (4, .long (lN x4)), (6, .int (nI x6))]) dX10_add_118 (by decide) rfl ?_
        refine r_aload_n 1 dX10_add_120 rfl rfl ?_
        refine r_getf (ci := 11) (kf := 27) (T := TX10) rfl in_X10 (by decide) wF_X10_62 dX10_add_121 (MAt.o_ HM) rfl ?_
        refine r_sipush (v := (nI 160)) dX10_add_124 rfl ?_
        refine r_iload_n 2 dX10_add_127 rfl rfl ?_
        refine r_imulN dX10_add_128 ?_
        refine r_iload 5 dX10_add_129 rfl ?_
        refine r_iaddN dX10_add_131 ?_
        refine r_lload 0 dX10_add_132 rfl ?_
        refine r_ldc2 (v := (lN 1000000000)) wL_X10_217 dX10_add_134 ?_
        obtain ⟨c, V⟩ := V
        refine r_lremN dX10_add_137 c ?_
        obtain ⟨c, V⟩ := V
        refine r_lastN dX10_add_138 (MAt.g_lb HM) c (by decide) ?_
        obtain ⟨hu9, eu9, HMu9, HOu9⟩ := mo_lb HM HO (va_up s.lb ((160 * x1) + x6) (((x4 + 0) + 0) % 1000000000))
        refine Blk.eqs ?_ rfl rfl eu9
        replace HMu9 : MAt hu9 x0 (MV.u_lb s (va_up s.lb ((160 * x1) + x6) (((x4 + 0) + 0) % 1000000000))) := HMu9
        show Blk g M_X10_add (pM x0 h0 nx Q) 139 [(7, .long (lN ((x4 + 0) + 0))), (0, .ref x0), (1, .int (nI x1)), (3, .int (nI x3)), (4, .long (lN x4)), (6, .int (nI x6))] [] hu9 nx 0 0
        refine r_lload 0 dX10_add_139 rfl ?_
        refine r_ldc2 (v := (lN 1000000000)) wL_X10_217 dX10_add_141 ?_
        obtain ⟨c, V⟩ := V
        refine r_ldivN dX10_add_144 c ?_
        refine r_lstore (L' := [(4, .long (lN (((x4 + 0) + 0) / 1000000000))), (7, .long (lN ((x4 + 0) + 0))), (0, .ref x0), (1, .int (nI x1)), (3, .int (nI x3)), (6, .int (nI x6))]) dX10_add_145 (by decide) rfl ?_
        refine r_iincN 5 (b := 1) (L' := [(6, .int (nI (x6 + 1))), (4, .long (lN (((x4 + 0) + 0) / 1000000000))), (7, .long (lN ((x4 + 0) + 0))), (0, .ref x0), (1, .int (nI x1)), (3, .int (nI x3))]) dX10_add_147 rfl rfl (by decide) rfl ?_
        refine r_goto (tgt := 53) dX10_add_150 (by decide) ?_
        exact Blk.sub [3, 4, 5, 1, 0] rfl (V _ _ _ HOu9 HMu9)
      · have V := V.2 c
        refine r_aload_n 0 dX10_add_102 rfl rfl ?_
        refine r_getf (ci := 11) (kf := 27) (T := TX10) rfl in_X10 (by decide) wF_X10_62 dX10_add_103 (MAt.o_ HM) rfl ?_
        refine r_sipush (v := (nI 11520)) dX10_add_106 rfl ?_
        refine r_iload 4 dX10_add_109 rfl ?_
        refine r_iaddN dX10_add_111 ?_
        obtain ⟨c, V⟩ := V
        refine r_lald dX10_add_112 (MAt.g_lb HM) rfl c (by decide) ?_
        show Blk g M_X10_add (pM x0 h0 nx Q) 113 [(0, .ref x0), (1, .int (nI x1)), (3, .int (nI x3)), (4, .long (lN x4)), (6, .int (nI x6))] [.long (lN (s.lb (11520 + x6))), .long (lN (x4 + 0))] h nx 0 0
        refine r_goto (tgt := 117) dX10_add_113 (by decide) ?_
        refine r_laddN dX10_add_117 ?_
        refine r_lstore (L' := [(7, .long (lN ((x4 + 0) + (s.lb (11520 + x6))))), (0, .ref x0), (1, .int (nI x1)), (3, .int (nI x3)), (4, .long (lN x4)), (6, .int (nI x6))]) dX10_add_118 (by decide) rfl ?_
        refine r_aload_n 1 dX10_add_120 rfl rfl ?_
        refine r_getf (ci := 11) (kf := 27) (T := TX10) rfl in_X10 (by decide) wF_X10_62 dX10_add_121 (MAt.o_ HM) rfl ?_
        refine r_sipush (v := (nI 160)) dX10_add_124 rfl ?_
        refine r_iload_n 2 dX10_add_127 rfl rfl ?_
        refine r_imulN dX10_add_128 ?_
        refine r_iload 5 dX10_add_129 rfl ?_
        refine r_iaddN dX10_add_131 ?_
        refine r_lload 0 dX10_add_132 rfl ?_
        refine r_ldc2 (v := (lN 1000000000)) wL_X10_217 dX10_add_134 ?_
        obtain ⟨c, V⟩ := V
        refine r_lremN dX10_add_137 c ?_
        obtain ⟨c, V⟩ := V
        refine r_lastN dX10_add_138 (MAt.g_lb HM) c (by decide) ?_
        obtain ⟨hu10, eu10, HMu10, HOu10⟩ := mo_lb HM HO (va_up s.lb ((160 * x1) + x6) (((x4 + 0) + (s.lb (11520 + x6))) % 1000000000))
        refine Blk.eqs ?_ rfl rfl eu10
        replace HMu10 : MAt hu10 x0 (MV.u_lb s (va_up s.lb ((160 * x1) + x6) (((x4 + 0) + (s.lb (11520 + x6))) % 1000000000))) := HMu10
        show Blk g M_X10_add (pM x0 h0 nx Q) 139 [(7, .long (lN ((x4 + 0) + (s.lb (11520 + x6))))), (0, .ref x0), (1, .int (nI x1)), (3, .int (nI x3)), (4, .long (lN x4)), (6, .int (nI x6))] [] hu10 nx 0 0
        refine r_lload 0 dX10_add_139 rfl ?_
        refine r_ldc2 (v := (lN 1000000000)) wL_X10_217 dX10_add_141 ?_
        obtain ⟨c, V⟩ := V
        refine r_ldivN dX10_add_144 c ?_
        refine r_lstore (L' := [(4, .long (lN (((x4 + 0) + (s.lb (11520 + x6))) / 1000000000))), (7, .long (lN ((x4 + 0) + (s.lb (11520 + x6))))), (0, .ref x0), (1, .int (nI x1)), (3, .int (nI x3)), (6, .int (nI x6))]) dX10_add_145 (by decide) rfl ?_
        refine r_iincN 5 (b := 1) (L' := [(6, .int (nI (x6 + 1))), (4, .long (lN (((x4 + 0) + (s.lb (11520 + x6))) / 1000000000))), (7, .long (lN ((x4 + 0) + (s.lb (11520 + x6))))), (0, .ref x0), (1, .int (nI x1)), (3, .int (nI x3))]) dX10_add_147 rfl rfl (by decide) rfl ?_
        refine r_goto (tgt := 53) dX10_add_150 (by decide) ?_
        exact Blk.sub [3, 4, 5, 1, 0] rfl (V _ _ _ HOu10 HMu10)
    · have V := V.2 c
      refine r_aload_n 0 dX10_add_72 rfl rfl ?_
      refine r_getf (ci := 11) (kf := 27) (T := TX10) rfl in_X10 (by decide) wF_X10_62 dX10_add_73 (MAt.o_ HM) rfl ?_
      refine r_sipush (v := (nI 160)) dX10_add_76 rfl ?_
      refine r_iload_n 1 dX10_add_79 rfl rfl ?_
      refine r_imulN dX10_add_80 ?_
      refine r_iload 4 dX10_add_81 rfl ?_
      refine r_iaddN dX10_add_83 ?_
      obtain ⟨c, V⟩ := V
      refine r_lald dX10_add_84 (MAt.g_lb HM) rfl c (by decide) ?_
      show Blk g M_X10_add (pM x0 h0 nx Q) 85 [(0, .ref x0), (1, .int (nI x1)), (3, .int (nI x3)), (4, .long (lN x4)), (6, .int (nI x6))] [.long (lN (s.lb ((160 * x1) + x6))), .long (lN x4)] h nx 0 0
      refine r_goto (tgt := 89) dX10_add_85 (by decide) ?_
      refine r_laddN dX10_add_89 ?_
      refine r_iload 4 dX10_add_90 rfl ?_
      refine r_aload_n 0 dX10_add_92 rfl rfl ?_
      refine r_getf (ci := 11) (kf := 28) (T := TX10) rfl in_X10 (by decide) wF_X10_65 dX10_add_93 (MAt.o_ HM) rfl ?_
      refine r_bipush (v := (nI 72)) dX10_add_96 rfl ?_
      obtain ⟨c, V⟩ := V
      refine r_iald dX10_add_98 (MAt.g_ln HM) rfl c (by decide) ?_
      show Blk g M_X10_add (pM x0 h0 nx Q) 99 [(0, .ref x0), (1, .int (nI x1)), (3, .int (nI x3)), (4, .long (lN x4)), (6, .int (nI x6))] [.int (nI (s.ln 72)), .int (nI x6), .long (lN (x4 + (s.lb ((160 * x1) + x6))))] h nx 0 0
      obtain ⟨c, V⟩ := V
      refine r_icmp_geN (tgt := 116) dX10_add_99 (by decide) c (fun c => ?_) (fun c => ?_)
      · have V := V.1 c
        refine r_lconst (v := (lN 0)) dX10_add_116 rfl ?_
        refine r_laddN dX10_add_117 ?_
        refine r_lstore (L' := [(7, .long (lN ((x4 + (s.lb ((160 * x1) + x6))) + 0))), (0, .ref x0), (1, .int (nI x1)), (3, .int (nI x3)), (4, .long (lN x4)), (6, .int (nI x6))]) dX10_add_118 (by decide) rfl ?_
        refine r_aload_n 1 dX10_add_120 rfl rfl ?_
        refine r_getf (ci := 11) (kf := 27) (T := TX10) rfl in_X10 (by decide) wF_X10_62 dX10_add_121 (MAt.o_ HM) rfl ?_
        refine r_sipush (v := (nI 160)) dX10_add_124 rfl ?_
        refine r_iload_n 2 dX10_add_127 rfl rfl ?_
        refine r_imulN dX10_add_128 ?_
        refine r_iload 5 dX10_add_129 rfl ?_
        refine r_iaddN dX10_add_131 ?_
        refine r_lload 0 dX10_add_132 rfl ?_
        refine r_ldc2 (v := (lN 1000000000)) wL_X10_217 dX10_add_134 ?_
        obtain ⟨c, V⟩ := V
        refine r_lremN dX10_add_137 c ?_
        obtain ⟨c, V⟩ := V
        refine r_lastN dX10_add_138 (MAt.g_lb HM) c (by decide) ?_
        obtain ⟨hu11, eu11, HMu11, HOu11⟩ := mo_lb HM HO (va_up s.lb ((160 * x1) + x6) (((x4 + (s.lb ((160 * x1) + x6))) + 0) % 1000000000))
        refine Blk.eqs ?_ rfl rfl eu11
        replace HMu11 : MAt hu11 x0 (MV.u_lb s (va_up s.lb ((160 * x1) + x6) (((x4 + (s.lb ((160 * x1) + x6))) + 0) % 1000000000))) := HMu11
        show Blk g M_X10_add (pM x0 h0 nx Q) 139 [(7, .long (lN ((x4 + (s.lb ((160 * x1) + x6))) + 0))), (0, .ref x0), (1, .int (nI x1)), (3, .int (nI x3)), (4, .long (lN x4)), (6, .int (nI x6))] [] hu11 nx 0 0
        refine r_lload 0 dX10_add_139 rfl ?_
        refine r_ldc2 (v := (lN 1000000000)) wL_X10_217 dX10_add_141 ?_
        obtain ⟨c, V⟩ := V
        refine r_ldivN dX10_add_144 c ?_
        refine r_lstore (L' := [(4, .long (lN (((x4 + (s.lb ((160 * x1) + x6))) + 0) / 1000000000))), (7, .long (lN ((x4 + (s.lb ((160 * x1) + x6))) + 0))), (0, .ref x0), (1, .int (nI x1)), (3, .int (nI x3)), (6, .int (nI x6))]) dX10_add_145 (by decide) rfl ?_
        refine r_iincN 5 (b := 1) (L' := [(6, .int (nI (x6 + 1))), (4, .long (lN (((x4 + (s.lb ((160 * x1) + x6))) + 0) / 1000000000))), (7, .long (lN ((x4 + (s.lb ((160 * x1) + x6))) + 0))), (0, .ref x0), (1, .int (nI x1)), (3, .int (nI x3))]) dX10_add_147 rfl rfl (by decide) rfl ?_
        refine r_goto (tgt := 53) dX10_add_150 (by decide) ?_
        exact Blk.sub [3, 4, 5, 1, 0] rfl (V _ _ _ HOu11 HMu11)
      · have V := V.2 c
        refine r_aload_n 0 dX10_add_102 rfl rfl ?_
        refine r_getf (ci := 11) (kf := 27) (T := TX10) rfl in_X10 (by decide) wF_X10_62 dX10_add_103 (MAt.o_ HM) rfl ?_
        refine r_sipush (v := (nI 11520)) dX10_add_106 rfl ?_
        refine r_iload 4 dX10_add_109 rfl ?_
        refine r_iaddN dX10_add_111 ?_
        obtain ⟨c, V⟩ := V
        refine r_lald dX10_add_112 (MAt.g_lb HM) rfl c (by decide) ?_
        show Blk g M_X10_add (pM x0 h0 nx Q) 113 [(0, .ref x0), (1, .int (nI x1)), (3, .int (nI x3)), (4, .long (lN x4)), (6, .int (nI x6))] [.long (lN (s.lb (11520 + x6))), .long (lN (x4 + (s.lb ((160 * x1) + x6))))] h nx 0 0
        refine r_goto (tgt := 117) dX10_add_113 (by decide) ?_
        refine r_laddN dX10_add_117 ?_
        refine r_lstore (L' := [(7, .long (lN ((x4 + (s.lb ((160 * x1) + x6))) + (s.lb (11520 + x6))))), (0, .ref x0), (1, .int (nI x1)), (3, .int (nI x3)), (4, .long (lN x4)), (6, .int (nI x6))]) dX10_add_118 (by decide) rfl ?_
        refine r_aload_n 1 dX10_add_120 rfl rfl ?_
        refine r_getf (ci := 11) (kf := 27) (T := TX10) rfl in_X10 (by decide) wF_X10_62 dX10_add_121 (MAt.o_ HM) rfl ?_
        refine r_sipush (v := (nI 160)) dX10_add_124 rfl ?_
        refine r_iload_n 2 dX10_add_127 rfl rfl ?_
        refine r_imulN dX10_add_128 ?_
        refine r_iload 5 dX10_add_129 rfl ?_
        refine r_iaddN dX10_add_131 ?_
        refine r_lload 0 dX10_add_132 rfl ?_
        refine r_ldc2 (v := (lN 1000000000)) wL_X10_217 dX10_add_134 ?_
        obtain ⟨c, V⟩ := V
        refine r_lremN dX10_add_137 c ?_
        obtain ⟨c, V⟩ := V
        refine r_lastN dX10_add_138 (MAt.g_lb HM) c (by decide) ?_
        obtain ⟨hu12, eu12, HMu12, HOu12⟩ := mo_lb HM HO (va_up s.lb ((160 * x1) + x6) (((x4 + (s.lb ((160 * x1) + x6))) + (s.lb (11520 + x6))) % 1000000000))
        refine Blk.eqs ?_ rfl rfl eu12
        replace HMu12 : MAt hu12 x0 (MV.u_lb s (va_up s.lb ((160 * x1) + x6) (((x4 + (s.lb ((160 * x1) + x6))) + (s.lb (11520 + x6))) % 1000000000))) := HMu12
        show Blk g M_X10_add (pM x0 h0 nx Q) 139 [(7, .long (lN ((x4 + (s.lb ((160 * x1) + x6))) + (s.lb (11520 + x6))))), (0, .ref x0), (1, .int (nI x1)), (3, .int (nI x3)), (4, .long (lN x4)), (6, .int (nI x6))] [] hu12 nx 0 0
        refine r_lload 0 dX10_add_139 rfl ?_
        refine r_ldc2 (v := (lN 1000000000)) wL_X10_217 dX10_add_141 ?_
        obtain ⟨c, V⟩ := V
        refine r_ldivN dX10_add_144 c ?_
        refine r_lstore (L' := [(4, .long (lN (((x4 + (s.lb ((160 * x1) + x6))) + (s.lb (11520 + x6))) / 1000000000))), (7, .long (lN ((x4 + (s.lb ((160 * x1) + x6))) + (s.lb (11520 + x6))))), (0, .ref x0), (1, .int (nI x1)), (3, .int (nI x3)), (6, .int (nI x6))]) dX10_add_145 (by decide) rfl ?_
        refine r_iincN 5 (b := 1) (L' := [(6, .int (nI (x6 + 1))), (4, .long (lN (((x4 + (s.lb ((160 * x1) + x6))) + (s.lb (11520 + x6))) / 1000000000))), (7, .long (lN ((x4 + (s.lb ((160 * x1) + x6))) + (s.lb (11520 + x6))))), (0, .ref x0), (1, .int (nI x1)), (3, .int (nI x3))]) dX10_add_147 rfl rfl (by decide) rfl ?_
        refine r_goto (tgt := 53) dX10_add_150 (by decide) ?_
        exact Blk.sub [3, 4, 5, 1, 0] rfl (V _ _ _ HOu12 HMu12)
set_option maxRecDepth 20000 in
theorem v_X10_take_0 {g : xG} {Q : mQ} {s : MV} {x0 : Nat} {x1 : Nat} {x2 : Nat} (V : (CtM g M_X10_copy [.ref x0, .int (nI x2), .int (nI 72)] x0 s (fun r s3 => r = none ∧ (CtM g M_X10_align [.ref x0, .int (nI x1), .int (nI 72)] x0 s3 (fun r s6 => r = none ∧ BlkM g M_X10_take x0 Q 19 [(0, .ref x0), (1, .int (nI x1)), (3, .long (lN 0)), (5, .int (nI 0))] [] s6))))) : BlkM g M_X10_take x0 Q 0 [(0, .ref x0), (1, .int (nI x1)), (2, .int (nI x2))] [] s := by
  intro h0 h nx HO HM
  refine r_aload_n 0 dX10_take_0 rfl rfl ?_
  refine r_iload_n 2 dX10_take_1 rfl rfl ?_
  refine r_bipush (v := (nI 72)) dX10_take_2 rfl ?_
  refine r_callV (M2 := M_X10_copy) (ci := 11) (n := 2) (As := [.int (nI x2), .int (nI 72)]) rfl (wl5 wM_X10_232 wi_X10_copy wS_X10_copy wI_StateSharesModel wc_X10_copy) (by decide +kernel) (by decide) rfl rfl (Nat.le_of_ble_eq_true rfl) dX10_take_4 (MAt.o_ HM) (by decide) (by decide) (Ct.imp (V _ _ HM) (fun r h1 n2 V => ?_))
  obtain ⟨rfl, Oh1, s3, HMh1, V⟩ := V
  have HOh1 := Off.tr HO Oh1
  obtain ⟨rfl, V⟩ := V
  show Blk g M_X10_take (pM x0 h0 nx Q) 7 [(0, .ref x0), (1, .int (nI x1)), (2, .int (nI x2))] [] h1 nx 0 0
  refine r_aload_n 0 dX10_take_7 rfl rfl ?_
  refine r_iload_n 1 dX10_take_8 rfl rfl ?_
  refine r_bipush (v := (nI 72)) dX10_take_9 rfl ?_
  refine r_callV (M2 := M_X10_align) (ci := 11) (n := 2) (As := [.int (nI x1), .int (nI 72)]) rfl (wl5 wM_X10_236 wi_X10_align wS_X10_align wI_StateSharesModel wc_X10_align) (by decide +kernel) (by decide) rfl rfl (Nat.le_of_ble_eq_true rfl) dX10_take_11 (MAt.o_ HMh1) (by decide) (by decide) (Ct.imp (V _ _ HMh1) (fun r h4 n5 V => ?_))
  obtain ⟨rfl, Oh4, s6, HMh4, V⟩ := V
  have HOh4 := Off.tr HOh1 Oh4
  obtain ⟨rfl, V⟩ := V
  show Blk g M_X10_take (pM x0 h0 nx Q) 14 [(0, .ref x0), (1, .int (nI x1)), (2, .int (nI x2))] [] h4 nx 0 0
  refine r_lconst (v := (lN 0)) dX10_take_14 rfl ?_
  refine r_lstore_n (L' := [(3, .long (lN 0)), (0, .ref x0), (1, .int (nI x1)), (2, .int (nI x2))]) dX10_take_15 rfl (by decide) rfl ?_
  refine r_iconst (v := (nI 0)) dX10_take_16 rfl ?_
  refine r_istore (L' := [(5, .int (nI 0)), (3, .long (lN 0)), (0, .ref x0), (1, .int (nI x1)), (2, .int (nI x2))]) dX10_take_17 (by decide) rfl ?_
  exact Blk.sub [2, 3, 1, 0] rfl (V _ _ _ HOh4 HMh4)
set_option maxRecDepth 20000 in
theorem v_X10_take_19 {g : xG} {Q : mQ} {s : MV} {x0 : Nat} {x1 : Nat} {x3 : Nat} {x5 : Nat} (V : (x1 < 84 ∧ ((x5 < 2 ^ 31 ∧ (s.ln x1) < 2 ^ 31) ∧ (((s.ln x1) ≤ x5 → (CtM g M_X10_trim [.ref x0, .int (nI x1)] x0 s (fun r s3 => r = none ∧ (CtM g M_X10_reduce [.ref x0, .int (nI x1)] x0 s3 (fun r s6 => r = none ∧ (Q none s6)))))) ∧ (x5 < (s.ln x1) → (((160 * x1) + x5) < 13440 ∧ (72 < 84 ∧ ((x5 < 2 ^ 31 ∧ (s.ln 72) < 2 ^ 31) ∧ (((s.ln 72) ≤ x5 → (((lN 0) ≤ (((lN (s.lb ((160 * x1) + x5))) - (lN x3)) - (lN 0)) → (((lN 0) ≤ (((lN (s.lb ((160 * x1) + x5))) - (lN x3)) - (lN 0)) → (∃ z7 : Nat, (((lN (s.lb ((160 * x1) + x5))) - (lN x3)) - (lN 0)) = lN z7 ∧ ((160 * x1) + x5) < 13440 ∧ BlkM g M_X10_take x0 Q 19 [(0, .ref x0), (1, .int (nI x1)), (3, .long (lN 0)), (5, .int (nI (x5 + 1)))] [] (MV.u_lb s (va_up s.lb ((160 * x1) + x5) z7)))) ∧ (¬ (lN 0) ≤ (((lN (s.lb ((160 * x1) + x5))) - (lN x3)) - (lN 0)) → (∃ z10 : Nat, ((((lN (s.lb ((160 * x1) + x5))) - (lN x3)) - (lN 0)) + (lN 1000000000)) = lN z10 ∧ ((160 * x1) + x5) < 13440 ∧ BlkM g M_X10_take x0 Q 19 [(0, .ref x0), (1, .int (nI x1)), (3, .long (lN 0)), (5, .int (nI (x5 + 1)))] [] (MV.u_lb s (va_up s.lb ((160 * x1) + x5) z10)))))) ∧ (¬ (lN 0) ≤ (((lN (s.lb ((160 * x1) + x5))) - (lN x3)) - (lN 0)) → (((lN 0) ≤ (((lN (s.lb ((160 * x1) + x5))) - (lN x3)) - (lN 0)) → (∃ z13 : Nat, (((lN (s.lb ((160 * x1) + x5))) - (lN x3)) - (lN 0)) = lN z13 ∧ ((160 * x1) + x5) < 13440 ∧ BlkM g M_X10_take x0 Q 19 [(0, .ref x0), (1, .int (nI x1)), (3, .long (lN 1)), (5, .int (nI (x5 + 1)))] [] (MV.u_lb s (va_up s.lb ((160 * x1) + x5) z13)))) ∧ (¬ (lN 0) ≤ (((lN (s.lb ((160 * x1) + x5))) - (lN x3)) - (lN 0)) → (∃ z16 : Nat, ((((lN (s.lb ((160 * x1) + x5))) - (lN x3)) - (lN 0)) + (lN 1000000000)) = lN z16 ∧ ((160 * x1) + x5) < 13440 ∧ BlkM g M_X10_take x0 Q 19 [(0, .ref x0), (1, .int (nI x1)), (3, .long (lN 1)), (5, .int (nI (x5 + 1)))] [] (MV.u_lb s (va_up s.lb ((160 * x1) + x5) z16)))))))) ∧ (x5 < (s.ln 72) → ((11520 + x5) < 13440 ∧ (((lN 0) ≤ (((lN (s.lb ((160 * x1) + x5))) - (lN x3)) - (lN (s.lb (11520 + x5)))) → (((lN 0) ≤ (((lN (s.lb ((160 * x1) + x5))) - (lN x3)) - (lN (s.lb (11520 + x5)))) → (∃ z19 : Nat, (((lN (s.lb ((160 * x1) + x5))) - (lN x3)) - (lN (s.lb (11520 + x5)))) = lN z19 ∧ ((160 * x1) + x5) < 13440 ∧ BlkM g M_X10_take x0 Q 19 [(0, .ref x0), (1, .int (nI x1)), (3, .long (lN 0)), (5, .int (nI (x5 + 1)))] [] (MV.u_lb s (va_up s.lb ((160 * x1) + x5) z19)))) ∧ (¬ (lN 0) ≤ (((lN (s.lb ((160 * x1) + x5))) - (lN x3)) - (lN (s.lb (11520 + x5)))) → (∃ z22 : Nat, ((((lN (s.lb ((160 * x1) + x5))) - (lN x3)) - (lN (s.lb (11520 + x5)))) + (lN 1000000000)) = lN z22 ∧ ((160 * x1) + x5) < 13440 ∧ BlkM g M_X10_take x0 Q 19 [(0, .ref x0), (1, .int (nI x1)), (3, .long (lN 0)), (5, .int (nI (x5 + 1)))] [] (MV.u_lb s (va_up s.lb ((160 * x1) + x5) z22)))))) ∧ (¬ (lN 0) ≤ (((lN (s.lb ((160 * x1) + x5))) - (lN x3)) - (lN (s.lb (11520 + x5)))) → (((lN 0) ≤ (((lN (s.lb ((160 * x1) + x5))) - (lN x3)) - (lN (s.lb (11520 + x5)))) → (∃ z25 : Nat, (((lN (s.lb ((160 * x1) + x5))) - (lN x3)) - (lN (s.lb (11520 + x5)))) = lN z25 ∧ ((160 * x1) + x5) < 13440 ∧ BlkM g M_X10_take x0 Q 19 [(0, .ref x0), (1, .int (nI x1)), (3, .long (lN 1)), (5, .int (nI (x5 + 1)))] [] (MV.u_lb s (va_up s.lb ((160 * x1) + x5) z25)))) ∧ (¬ (lN 0) ≤ (((lN (s.lb ((160 * x1) + x5))) - (lN x3)) - (lN (s.lb (11520 + x5)))) → (∃ z28 : Nat, ((((lN (s.lb ((160 * x1) + x5))) - (lN x3)) - (lN (s.lb (11520 + x5)))) + (lN 1000000000)) = lN z28 ∧ ((160 * x1) + x5) < 13440 ∧ BlkM g M_X10_take x0 Q 19 [(0, .ref x0), (1, .int (nI x1)), (3, .long (lN 1)), (5, .int (nI (x5 + 1)))] [] (MV.u_lb s (va_up s.lb ((160 * x1) + x5) z28)))))))))))))))))) : BlkM g M_X10_take x0 Q 19 [(0, .ref x0), (1, .int (nI x1)), (3, .long (lN x3)), (5, .int (nI x5))] [] s := by
  intro h0 h nx HO HM
  refine r_iload 3 dX10_take_19 rfl ?_
  refine r_aload_n 0 dX10_take_21 rfl rfl ?_
  refine r_getf (ci := 11) (kf := 28) (T := TX10) rfl in_X10 (by decide) wF_X10_65 dX10_take_22 (MAt.o_ HM) rfl ?_
  refine r_iload_n 1 dX10_take_25 rfl rfl ?_
  obtain ⟨c, V⟩ := V
  refine r_iald dX10_take_26 (MAt.g_ln HM) rfl c (by decide) ?_
  show Blk g M_X10_take (pM x0 h0 nx Q) 27 [(0, .ref x0), (1, .int (nI x1)), (3, .long (lN x3)), (5, .int (nI x5))] [.int (nI (s.ln x1)), .int (nI x5)] h nx 0 0
  obtain ⟨c, V⟩ := V
  refine r_icmp_geN (tgt := 125) dX10_take_27 (by decide) c (fun c => ?_) (fun c => ?_)
  · have V := V.1 c
    refine r_aload_n 0 dX10_take_125 rfl rfl ?_
    refine r_iload_n 1 dX10_take_126 rfl rfl ?_
    refine r_callV (M2 := M_X10_trim) (ci := 11) (n := 1) (As := [.int (nI x1)]) rfl (wl5 wM_X10_219 wi_X10_trim wS_X10_trim wI_StateSharesModel wc_X10_trim) (by decide +kernel) (by decide) rfl rfl (Nat.le_of_ble_eq_true rfl) dX10_take_127 (MAt.o_ HM) (by decide) (by decide) (Ct.imp (V _ _ HM) (fun r h1 n2 V => ?_))
    obtain ⟨rfl, Oh1, s3, HMh1, V⟩ := V
    have HOh1 := Off.tr HO Oh1
    obtain ⟨rfl, V⟩ := V
    show Blk g M_X10_take (pM x0 h0 nx Q) 130 [(0, .ref x0), (1, .int (nI x1)), (3, .long (lN x3)), (5, .int (nI x5))] [] h1 nx 0 0
    refine r_aload_n 0 dX10_take_130 rfl rfl ?_
    refine r_iload_n 1 dX10_take_131 rfl rfl ?_
    refine r_callV (M2 := M_X10_reduce) (ci := 11) (n := 1) (As := [.int (nI x1)]) rfl (wl5 wM_X10_229 wi_X10_reduce wS_X10_reduce wI_StateSharesModel wc_X10_reduce) (by decide +kernel) (by decide) rfl rfl (Nat.le_of_ble_eq_true rfl) dX10_take_132 (MAt.o_ HMh1) (by decide) (by decide) (Ct.imp (V _ _ HMh1) (fun r h4 n5 V => ?_))
    obtain ⟨rfl, Oh4, s6, HMh4, V⟩ := V
    have HOh4 := Off.tr HOh1 Oh4
    obtain ⟨rfl, V⟩ := V
    show Blk g M_X10_take (pM x0 h0 nx Q) 135 [(0, .ref x0), (1, .int (nI x1)), (3, .long (lN x3)), (5, .int (nI x5))] [] h4 nx 0 0
    exact r_vret dX10_take_135 rfl (by decide) (by decide) ⟨rfl, HOh4, _, HMh4, V⟩
  · have V := V.2 c
    refine r_aload_n 0 dX10_take_30 rfl rfl ?_
    refine r_getf (ci := 11) (kf := 27) (T := TX10) rfl in_X10 (by decide) wF_X10_62 dX10_take_31 (MAt.o_ HM) rfl ?_
    refine r_sipush (v := (nI 160)) dX10_take_34 rfl ?_
    refine r_iload_n 1 dX10_take_37 rfl rfl ?_
    refine r_imulN dX10_take_38 ?_
    refine r_iload 3 dX10_take_39 rfl ?_
    refine r_iaddN dX10_take_41 ?_
    obtain ⟨c, V⟩ := V
    refine r_lald dX10_take_42 (MAt.g_lb HM) rfl c (by decide) ?_
    show Blk g M_X10_take (pM x0 h0 nx Q) 43 [(0, .ref x0), (1, .int (nI x1)), (3, .long (lN x3)), (5, .int (nI x5))] [.long (lN (s.lb ((160 * x1) + x5)))] h nx 0 0
    refine r_lload_n 2 dX10_take_43 rfl rfl ?_
    refine r_lsub dX10_take_44 ?_
    refine r_iload 3 dX10_take_45 rfl ?_
    refine r_aload_n 0 dX10_take_47 rfl rfl ?_
    refine r_getf (ci := 11) (kf := 28) (T := TX10) rfl in_X10 (by decide) wF_X10_65 dX10_take_48 (MAt.o_ HM) rfl ?_
    refine r_bipush (v := (nI 72)) dX10_take_51 rfl ?_
    obtain ⟨c, V⟩ := V
    refine r_iald dX10_take_53 (MAt.g_ln HM) rfl c (by decide) ?_
    show Blk g M_X10_take (pM x0 h0 nx Q) 54 [(0, .ref x0), (1, .int (nI x1)), (3, .long (lN x3)), (5, .int (nI x5))] [.int (nI (s.ln 72)), .int (nI x5), .long ((lN (s.lb ((160 * x1) + x5))) - (lN x3))] h nx 0 0
    obtain ⟨c, V⟩ := V
    refine r_icmp_geN (tgt := 71) dX10_take_54 (by decide) c (fun c => ?_) (fun c => ?_)
    · have V := V.1 c
      refine r_lconst (v := (lN 0)) dX10_take_71 rfl ?_
      refine r_lsub dX10_take_72 ?_
      refine r_lstore (L' := [(6, .long (((lN (s.lb ((160 * x1) + x5))) - (lN x3)) - (lN 0))), (0, .ref x0), (1, .int (nI x1)), (3, .long (lN x3)), (5, .int (nI x5))]) dX10_take_73 (by decide) rfl ?_
      refine r_lload 0 dX10_take_75 rfl ?_
      refine r_lconst (v := (lN 0)) dX10_take_77 rfl ?_
      refine r_lcmp dX10_take_78 ?_
      refine r_if_ge (tgt := 86) dX10_take_79 (by decide) (fun c => ?_) (fun c => ?_)
      · have V := V.1 ((lg_cmp_ge _ _).mp c)
        refine r_lconst (v := (lN 0)) dX10_take_86 rfl ?_
        refine r_lstore_n (L' := [(3, .long (lN 0)), (6, .long (((lN (s.lb ((160 * x1) + x5))) - (lN x3)) - (lN 0))), (0, .ref x0), (1, .int (nI x1)), (5, .int (nI x5))]) dX10_take_87 rfl (by decide) rfl ?_
        refine r_aload_n 2 dX10_take_88 rfl rfl ?_
        refine r_getf (ci := 11) (kf := 27) (T := TX10) rfl in_X10 (by decide) wF_X10_62 dX10_take_89 (MAt.o_ HM) rfl ?_
        refine r_sipush (v := (nI 160)) dX10_take_92 rfl ?_
        refine r_iload_n 3 dX10_take_95 rfl rfl ?_
        refine r_imulN dX10_take_96 ?_
        refine r_iload 4 dX10_take_97 rfl ?_
        refine r_iaddN dX10_take_99 ?_
        refine r_lload 1 dX10_take_100 rfl ?_
        refine r_lconst (v := (lN 0)) dX10_take_102 rfl ?_
        refine r_lcmp dX10_take_103 ?_
        refine r_if_ge (tgt := 116) dX10_take_104 (by decide) (fun c => ?_) (fun c => ?_)
        · have V := V.1 ((lg_cmp_ge _ _).mp c)
          refine r_lload 1 dX10_take_116 rfl ?_
          obtain ⟨z7, e8, V⟩ := V
          refine Blk.to (st' := [.long (lN z7), .int (nI ((160 * x1) + x5)), .ref (x0 + 18)]) ?_ ⟨rfl, by rw [e8], rfl⟩
          obtain ⟨c, V⟩ := V
          refine r_lastN dX10_take_118 (MAt.g_lb HM) c (by decide) ?_
          obtain ⟨hu9, eu9, HMu9, HOu9⟩ := mo_lb HM HO (va_up s.lb ((160 * x1) + x5) z7)
          refine Blk.eqs ?_ rfl rfl eu9
          replace HMu9 : MAt hu9 x0 (MV.u_lb s (va_up s.lb ((160 * x1) + x5) z7)) := HMu9
          show Blk g M_X10_take (pM x0 h0 nx Q) 119 [(3, .long (lN 0)), (6, .long (((lN (s.lb ((160 * x1) + x5))) - (lN x3)) - (lN 0))), (0, .ref x0), (1, .int (nI x1)), (5, .int (nI x5))] [] hu9 nx 0 0
          refine r_iincN 4 (b := 1) (L' := [(5, .int (nI (x5 + 1))), (3, .long (lN 0)), (6, .long (((lN (s.lb ((160 * x1) + x5))) - (lN x3)) - (lN 0))), (0, .ref x0), (1, .int (nI x1))]) dX10_take_119 rfl rfl (by decide) rfl ?_
          refine r_goto (tgt := 19) dX10_take_122 (by decide) ?_
          exact Blk.sub [3, 4, 1, 0] rfl (V _ _ _ HOu9 HMu9)
        · have V := V.2 (fun q => c ((lg_cmp_ge _ _).mpr q))
          refine r_lload 1 dX10_take_107 rfl ?_
          refine r_ldc2 (v := (lN 1000000000)) wL_X10_217 dX10_take_109 ?_
          refine r_ladd dX10_take_112 ?_
          refine r_goto (tgt := 118) dX10_take_113 (by decide) ?_
          obtain ⟨z10, e11, V⟩ := V
          refine Blk.to (st' := [.long (lN z10), .int (nI ((160 * x1) + x5)), .ref (x0 + 18)]) ?_ ⟨rfl, by rw [e11], rfl⟩
          obtain ⟨c, V⟩ := V
          refine r_lastN dX10_take_118 (MAt.g_lb HM) c (by decide) ?_
          obtain ⟨hu12, eu12, HMu12, HOu12⟩ := mo_lb HM HO (va_up s.lb ((160 * x1) + x5) z10)
          refine Blk.eqs ?_ rfl rfl eu12
          replace HMu12 : MAt hu12 x0 (MV.u_lb s (va_up s.lb ((160 * x1) + x5) z10)) := HMu12
          show Blk g M_X10_take (pM x0 h0 nx Q) 119 [(3, .long (lN 0)), (6, .long (((lN (s.lb ((160 * x1) + x5))) - (lN x3)) - (lN 0))), (0, .ref x0), (1, .int (nI x1)), (5, .int (nI x5))] [] hu12 nx 0 0
          refine r_iincN 4 (b := 1) (L' := [(5, .int (nI (x5 + 1))), (3, .long (lN 0)), (6, .long (((lN (s.lb ((160 * x1) + x5))) - (lN x3)) - (lN 0))), (0, .ref x0), (1, .int (nI x1))]) dX10_take_119 rfl rfl (by decide) rfl ?_
          refine r_goto (tgt := 19) dX10_take_122 (by decide) ?_
          exact Blk.sub [3, 4, 1, 0] rfl (V _ _ _ HOu12 HMu12)
      · have V := V.2 (fun q => c ((lg_cmp_ge _ _).mpr q))
        refine r_lconst (v := (lN 1)) dX10_take_82 rfl ?_
        refine r_goto (tgt := 87) dX10_take_83 (by decide) ?_
        refine r_lstore_n (L' := [(3, .long (lN 1)), (6, .long (((lN (s.lb ((160 * x1) + x5))) - (lN x3)) - (lN 0))), (0, .ref x0), (1, .int (nI x1)), (5, .int (nI x5))]) dX10_take_87 rfl (by decide) rfl ?_
        refine r_aload_n 2 dX10_take_88 rfl rfl ?_
        refine r_getf (ci := 11) (kf := 27) (T := TX10) rfl in_X10 (by decide) wF_X10_62 dX10_take_89 (MAt.o_ HM) rfl ?_
        refine r_sipush (v := (nI 160)) dX10_take_92 rfl ?_
        refine r_iload_n 3 dX10_take_95 rfl rfl ?_
        refine r_imulN dX10_take_96 ?_
        refine r_iload 4 dX10_take_97 rfl ?_
        refine r_iaddN dX10_take_99 ?_
        refine r_lload 1 dX10_take_100 rfl ?_
        refine r_lconst (v := (lN 0)) dX10_take_102 rfl ?_
        refine r_lcmp dX10_take_103 ?_
        refine r_if_ge (tgt := 116) dX10_take_104 (by decide) (fun c => ?_) (fun c => ?_)
        · have V := V.1 ((lg_cmp_ge _ _).mp c)
          refine r_lload 1 dX10_take_116 rfl ?_
          obtain ⟨z13, e14, V⟩ := V
          refine Blk.to (st' := [.long (lN z13), .int (nI ((160 * x1) + x5)), .ref (x0 + 18)]) ?_ ⟨rfl, by rw [e14], rfl⟩
          obtain ⟨c, V⟩ := V
          refine r_lastN dX10_take_118 (MAt.g_lb HM) c (by decide) ?_
          obtain ⟨hu15, eu15, HMu15, HOu15⟩ := mo_lb HM HO (va_up s.lb ((160 * x1) + x5) z13)
          refine Blk.eqs ?_ rfl rfl eu15
          replace HMu15 : MAt hu15 x0 (MV.u_lb s (va_up s.lb ((160 * x1) + x5) z13)) := HMu15
          show Blk g M_X10_take (pM x0 h0 nx Q) 119 [(3, .long (lN 1)), (6, .long (((lN (s.lb ((160 * x1) + x5))) - (lN x3)) - (lN 0))), (0, .ref x0), (1, .int (nI x1)), (5, .int (nI x5))] [] hu15 nx 0 0
          refine r_iincN 4 (b := 1) (L' := [(5, .int (nI (x5 + 1))), (3, .long (lN 1)), (6, .long (((lN (s.lb ((160 * x1) + x5))) - (lN x3)) - (lN 0))), (0, .ref x0), (1, .int (nI x1))]) dX10_take_119 rfl rfl (by decide) rfl ?_
          refine r_goto (tgt := 19) dX10_take_122 (by decide) ?_
          exact Blk.sub [3, 4, 1, 0] rfl (V _ _ _ HOu15 HMu15)
        · have V := V.2 (fun q => c ((lg_cmp_ge _ _).mpr q))
          refine r_lload 1 dX10_take_107 rfl ?_
          refine r_ldc2 (v := (lN 1000000000)) wL_X10_217 dX10_take_109 ?_
          refine r_ladd dX10_take_112 ?_
          refine r_goto (tgt := 118) dX10_take_113 (by decide) ?_
          obtain ⟨z16, e17, V⟩ := V
          refine Blk.to (st' := [.long (lN z16), .int (nI ((160 * x1) + x5)), .ref (x0 + 18)]) ?_ ⟨rfl, by rw [e17], rfl⟩
          obtain ⟨c, V⟩ := V
          refine r_lastN dX10_take_118 (MAt.g_lb HM) c (by decide) ?_
          obtain ⟨hu18, eu18, HMu18, HOu18⟩ := mo_lb HM HO (va_up s.lb ((160 * x1) + x5) z16)
          refine Blk.eqs ?_ rfl rfl eu18
          replace HMu18 : MAt hu18 x0 (MV.u_lb s (va_up s.lb ((160 * x1) + x5) z16)) := HMu18
          show Blk g M_X10_take (pM x0 h0 nx Q) 119 [(3, .long (lN 1)), (6, .long (((lN (s.lb ((160 * x1) + x5))) - (lN x3)) - (lN 0))), (0, .ref x0), (1, .int (nI x1)), (5, .int (nI x5))] [] hu18 nx 0 0
          refine r_iincN 4 (b := 1) (L' := [(5, .int (nI (x5 + 1))), (3, .long (lN 1)), (6, .long (((lN (s.lb ((160 * x1) + x5))) - (lN x3)) - (lN 0))), (0, .ref x0), (1, .int (nI x1))]) dX10_take_119 rfl rfl (by decide) rfl ?_
          refine r_goto (tgt := 19) dX10_take_122 (by decide) ?_
          exact Blk.sub [3, 4, 1, 0] rfl (V _ _ _ HOu18 HMu18)
    · have V := V.2 c
      refine r_aload_n 0 dX10_take_57 rfl rfl ?_
      refine r_getf (ci := 11) (kf := 27) (T := TX10) rfl in_X10 (by decide) wF_X10_62 dX10_take_58 (MAt.o_ HM) rfl ?_
      refine r_sipush (v := (nI 11520)) dX10_take_61 rfl ?_
      refine r_iload 3 dX10_take_64 rfl ?_
      refine r_iaddN dX10_take_66 ?_
      obtain ⟨c, V⟩ := V
      refine r_lald dX10_take_67 (MAt.g_lb HM) rfl c (by decide) ?_
      show Blk g M_X10_take (pM x0 h0 nx Q) 68 [(0, .ref x0), (1, .int (nI x1)), (3, .long (lN x3)), (5, .int (nI x5))] [.long (lN (s.lb (11520 + x5))), .long ((lN (s.lb ((160 * x1) + x5))) - (lN x3))] h nx 0 0
      refine r_goto (tgt := 72) dX10_take_68 (by decide) ?_
      refine r_lsub dX10_take_72 ?_
      refine r_lstore (L' := [(6, .long (((lN (s.lb ((160 * x1) + x5))) - (lN x3)) - (lN (s.lb (11520 + x5))))), (0, .ref x0), (1, .int (nI x1)), (3, .long (lN x3)), (5, .int (nI x5))]) dX10_take_73 (by decide) rfl ?_
      refine r_lload 0 dX10_take_75 rfl ?_
      refine r_lconst (v := (lN 0)) dX10_take_77 rfl ?_
      refine r_lcmp dX10_take_78 ?_
      refine r_if_ge (tgt := 86) dX10_take_79 (by decide) (fun c => ?_) (fun c => ?_)
      · have V := V.1 ((lg_cmp_ge _ _).mp c)
        refine r_lconst (v := (lN 0)) dX10_take_86 rfl ?_
        refine r_lstore_n (L' := [(3, .long (lN 0)), (6, .long (((lN (s.lb ((160 * x1) + x5))) - (lN x3)) - (lN (s.lb (11520 + x5))))), (0, .ref x0), (1, .int (nI x1)), (5, .int (nI x5))]) dX10_take_87 rfl (by decide) rfl ?_
        refine r_aload_n 2 dX10_take_88 rfl rfl ?_
        refine r_getf (ci := 11) (kf := 27) (T := TX10) rfl in_X10 (by decide) wF_X10_62 dX10_take_89 (MAt.o_ HM) rfl ?_
        refine r_sipush (v := (nI 160)) dX10_take_92 rfl ?_
        refine r_iload_n 3 dX10_take_95 rfl rfl ?_
        refine r_imulN dX10_take_96 ?_
        refine r_iload 4 dX10_take_97 rfl ?_
        refine r_iaddN dX10_take_99 ?_
        refine r_lload 1 dX10_take_100 rfl ?_
        refine r_lconst (v := (lN 0)) dX10_take_102 rfl ?_
        refine r_lcmp dX10_take_103 ?_
        refine r_if_ge (tgt := 116) dX10_take_104 (by decide) (fun c => ?_) (fun c => ?_)
        · have V := V.1 ((lg_cmp_ge _ _).mp c)
          refine r_lload 1 dX10_take_116 rfl ?_
          obtain ⟨z19, e20, V⟩ := V
          refine Blk.to (st' := [.long (lN z19), .int (nI ((160 * x1) + x5)), .ref (x0 + 18)]) ?_ ⟨rfl, by rw [e20], rfl⟩
          obtain ⟨c, V⟩ := V
          refine r_lastN dX10_take_118 (MAt.g_lb HM) c (by decide) ?_
          obtain ⟨hu21, eu21, HMu21, HOu21⟩ := mo_lb HM HO (va_up s.lb ((160 * x1) + x5) z19)
          refine Blk.eqs ?_ rfl rfl eu21
          replace HMu21 : MAt hu21 x0 (MV.u_lb s (va_up s.lb ((160 * x1) + x5) z19)) := HMu21
          show Blk g M_X10_take (pM x0 h0 nx Q) 119 [(3, .long (lN 0)), (6, .long (((lN (s.lb ((160 * x1) + x5))) - (lN x3)) - (lN (s.lb (11520 + x5))))), (0, .ref x0), (1, .int (nI x1)), (5, .int (nI x5))] [] hu21 nx 0 0
          refine r_iincN 4 (b := 1) (L' := [(5, .int (nI (x5 + 1))), (3, .long (lN 0)), (6, .long (((lN (s.lb ((160 * x1) + x5))) - (lN x3)) - (lN (s.lb (11520 + x5))))), (0, .ref x0), (1, .int (nI x1))]) dX10_take_119 rfl rfl (by decide) rfl ?_
          refine r_goto (tgt := 19) dX10_take_122 (by decide) ?_
          exact Blk.sub [3, 4, 1, 0] rfl (V _ _ _ HOu21 HMu21)
        · have V := V.2 (fun q => c ((lg_cmp_ge _ _).mpr q))
          refine r_lload 1 dX10_take_107 rfl ?_
          refine r_ldc2 (v := (lN 1000000000)) wL_X10_217 dX10_take_109 ?_
          refine r_ladd dX10_take_112 ?_
          refine r_goto (tgt := 118) dX10_take_113 (by decide) ?_
          obtain ⟨z22, e23, V⟩ := V
          refine Blk.to (st' := [.long (lN z22), .int (nI ((160 * x1) + x5)), .ref (x0 + 18)]) ?_ ⟨rfl, by rw [e23], rfl⟩
          obtain ⟨c, V⟩ := V
          refine r_lastN dX10_take_118 (MAt.g_lb HM) c (by decide) ?_
          obtain ⟨hu24, eu24, HMu24, HOu24⟩ := mo_lb HM HO (va_up s.lb ((160 * x1) + x5) z22)
          refine Blk.eqs ?_ rfl rfl eu24
          replace HMu24 : MAt hu24 x0 (MV.u_lb s (va_up s.lb ((160 * x1) + x5) z22)) := HMu24
          show Blk g M_X10_take (pM x0 h0 nx Q) 119 [(3, .long (lN 0)), (6, .long (((lN (s.lb ((160 * x1) + x5))) - (lN x3)) - (lN (s.lb (11520 + x5))))), (0, .ref x0), (1, .int (nI x1)), (5, .int (nI x5))] [] hu24 nx 0 0
          refine r_iincN 4 (b := 1) (L' := [(5, .int (nI (x5 + 1))), (3, .long (lN 0)), (6, .long (((lN (s.lb ((160 * x1) + x5))) - (lN x3)) - (lN (s.lb (11520 + x5))))), (0, .ref x0), (1, .int (nI x1))]) dX10_take_119 rfl rfl (by decide) rfl ?_
          refine r_goto (tgt := 19) dX10_take_122 (by decide) ?_
          exact Blk.sub [3, 4, 1, 0] rfl (V _ _ _ HOu24 HMu24)
      · have V := V.2 (fun q => c ((lg_cmp_ge _ _).mpr q))
        refine r_lconst (v := (lN 1)) dX10_take_82 rfl ?_
        refine r_goto (tgt := 87) dX10_take_83 (by decide) ?_
        refine r_lstore_n (L' := [(3, .long (lN 1)), (6, .long (((lN (s.lb ((160 * x1) + x5))) - (lN x3)) - (lN (s.lb (11520 + x5))))), (0, .ref x0), (1, .int (nI x1)), (5, .int (nI x5))]) dX10_take_87 rfl (by decide) rfl ?_
        refine r_aload_n 2 dX10_take_88 rfl rfl ?_
        refine r_getf (ci := 11) (kf := 27) (T := TX10) rfl in_X10 (by decide) wF_X10_62 dX10_take_89 (MAt.o_ HM) rfl ?_
        refine r_sipush (v := (nI 160)) dX10_take_92 rfl ?_
        refine r_iload_n 3 dX10_take_95 rfl rfl ?_
        refine r_imulN dX10_take_96 ?_
        refine r_iload 4 dX10_take_97 rfl ?_
        refine r_iaddN dX10_take_99 ?_
        refine r_lload 1 dX10_take_100 rfl ?_
        refine r_lconst (v := (lN 0)) dX10_take_102 rfl ?_
        refine r_lcmp dX10_take_103 ?_
        refine r_if_ge (tgt := 116) dX10_take_104 (by decide) (fun c => ?_) (fun c => ?_)
        · have V := V.1 ((lg_cmp_ge _ _).mp c)
          refine r_lload 1 dX10_take_116 rfl ?_
          obtain ⟨z25, e26, V⟩ := V
          refine Blk.to (st' := [.long (lN z25), .int (nI ((160 * x1) + x5)), .ref (x0 + 18)]) ?_ ⟨rfl, by rw [e26], rfl⟩
          obtain ⟨c, V⟩ := V
          refine r_lastN dX10_take_118 (MAt.g_lb HM) c (by decide) ?_
          obtain ⟨hu27, eu27, HMu27, HOu27⟩ := mo_lb HM HO (va_up s.lb ((160 * x1) + x5) z25)
          refine Blk.eqs ?_ rfl rfl eu27
          replace HMu27 : MAt hu27 x0 (MV.u_lb s (va_up s.lb ((160 * x1) + x5) z25)) := HMu27
          show Blk g M_X10_take (pM x0 h0 nx Q) 119 [(3, .long (lN 1)), (6, .long (((lN (s.lb ((160 * x1) + x5))) - (lN x3)) - (lN (s.lb (11520 + x5))))), (0, .ref x0), (1, .int (nI x1)), (5, .int (nI x5))] [] hu27 nx 0 0
          refine r_iincN 4 (b := 1) (L' := [(5, .int (nI (x5 + 1))), (3, .long (lN 1)), (6, .long (((lN (s.lb ((160 * x1) + x5))) - (lN x3)) - (lN (s.lb (11520 + x5))))), (0, .ref x0), (1, .int (nI x1))]) dX10_take_119 rfl rfl (by decide) rfl ?_
          refine r_goto (tgt := 19) dX10_take_122 (by decide) ?_
          exact Blk.sub [3, 4, 1, 0] rfl (V _ _ _ HOu27 HMu27)
        · have V := V.2 (fun q => c ((lg_cmp_ge _ _).mpr q))
          refine r_lload 1 dX10_take_107 rfl ?_
          refine r_ldc2 (v := (lN 1000000000)) wL_X10_217 dX10_take_109 ?_
          refine r_ladd dX10_take_112 ?_
          refine r_goto (tgt := 118) dX10_take_113 (by decide) ?_
          obtain ⟨z28, e29, V⟩ := V
          refine Blk.to (st' := [.long (lN z28), .int (nI ((160 * x1) + x5)), .ref (x0 + 18)]) ?_ ⟨rfl, by rw [e29], rfl⟩
          obtain ⟨c, V⟩ := V
          refine r_lastN dX10_take_118 (MAt.g_lb HM) c (by decide) ?_
          obtain ⟨hu30, eu30, HMu30, HOu30⟩ := mo_lb HM HO (va_up s.lb ((160 * x1) + x5) z28)
          refine Blk.eqs ?_ rfl rfl eu30
          replace HMu30 : MAt hu30 x0 (MV.u_lb s (va_up s.lb ((160 * x1) + x5) z28)) := HMu30
          show Blk g M_X10_take (pM x0 h0 nx Q) 119 [(3, .long (lN 1)), (6, .long (((lN (s.lb ((160 * x1) + x5))) - (lN x3)) - (lN (s.lb (11520 + x5))))), (0, .ref x0), (1, .int (nI x1)), (5, .int (nI x5))] [] hu30 nx 0 0
          refine r_iincN 4 (b := 1) (L' := [(5, .int (nI (x5 + 1))), (3, .long (lN 1)), (6, .long (((lN (s.lb ((160 * x1) + x5))) - (lN x3)) - (lN (s.lb (11520 + x5))))), (0, .ref x0), (1, .int (nI x1))]) dX10_take_119 rfl rfl (by decide) rfl ?_
          refine r_goto (tgt := 19) dX10_take_122 (by decide) ?_
          exact Blk.sub [3, 4, 1, 0] rfl (V _ _ _ HOu30 HMu30)
set_option maxRecDepth 20000 in
theorem v_X10_compare_0 {g : xG} {Q : mQ} {s : MV} {x0 : Nat} {x1 : Nat} {x2 : Nat} (V : (x1 < 84 ∧ (x2 < 84 ∧ (((s.ln x1) < 2 ^ 31 ∧ (s.ln x2) < 2 ^ 31) ∧ (((s.ln x1) = (s.ln x2) → (x1 < 84 ∧ BlkM g M_X10_compare x0 Q 45 [(0, .ref x0), (1, .int (nI x1)), (2, .int (nI x2)), (3, .int (nI (s.ln x1) - nI 1))] [] s)) ∧ (¬ (s.ln x1) = (s.ln x2) → (x1 < 84 ∧ (x2 < 84 ∧ (((s.ln x1) < 2 ^ 31 ∧ (s.ln x2) < 2 ^ 31) ∧ (((s.ln x2) ≤ (s.ln x1) → (Q (some (.int (nI 1))) s)) ∧ ((s.ln x1) < (s.ln x2) → (Q (some (.int (-1))) s)))))))))))) : BlkM g M_X10_compare x0 Q 0 [(0, .ref x0), (1, .int (nI x1)), (2, .int (nI x2))] [] s := by
  intro h0 h nx HO HM
  refine r_aload_n 0 dX10_compare_0 rfl rfl ?_
  refine r_getf (ci := 11) (kf := 28) (T := TX10) rfl in_X10 (by decide) wF_X10_65 dX10_compare_1 (MAt.o_ HM) rfl ?_
  refine r_iload_n 1 dX10_compare_4 rfl rfl ?_
  obtain ⟨c, V⟩ := V
  refine r_iald dX10_compare_5 (MAt.g_ln HM) rfl c (by decide) ?_
  show Blk g M_X10_compare (pM x0 h0 nx Q) 6 [(0, .ref x0), (1, .int (nI x1)), (2, .int (nI x2))] [.int (nI (s.ln x1))] h nx 0 0
  refine r_aload_n 0 dX10_compare_6 rfl rfl ?_
  refine r_getf (ci := 11) (kf := 28) (T := TX10) rfl in_X10 (by decide) wF_X10_65 dX10_compare_7 (MAt.o_ HM) rfl ?_
  refine r_iload_n 2 dX10_compare_10 rfl rfl ?_
  obtain ⟨c, V⟩ := V
  refine r_iald dX10_compare_11 (MAt.g_ln HM) rfl c (by decide) ?_
  show Blk g M_X10_compare (pM x0 h0 nx Q) 12 [(0, .ref x0), (1, .int (nI x1)), (2, .int (nI x2))] [.int (nI (s.ln x2)), .int (nI (s.ln x1))] h nx 0 0
  obtain ⟨c, V⟩ := V
  refine r_icmp_eqN (tgt := 36) dX10_compare_12 (by decide) c (fun c => ?_) (fun c => ?_)
  · have V := V.1 c
    refine r_aload_n 0 dX10_compare_36 rfl rfl ?_
    refine r_getf (ci := 11) (kf := 28) (T := TX10) rfl in_X10 (by decide) wF_X10_65 dX10_compare_37 (MAt.o_ HM) rfl ?_
    refine r_iload_n 1 dX10_compare_40 rfl rfl ?_
    obtain ⟨c, V⟩ := V
    refine r_iald dX10_compare_41 (MAt.g_ln HM) rfl c (by decide) ?_
    show Blk g M_X10_compare (pM x0 h0 nx Q) 42 [(0, .ref x0), (1, .int (nI x1)), (2, .int (nI x2))] [.int (nI (s.ln x1))] h nx 0 0
    refine r_iconst (v := (nI 1)) dX10_compare_42 rfl ?_
    refine r_isub dX10_compare_43 ?_
    refine r_istore_n (L' := [(3, .int (nI (s.ln x1) - nI 1)), (0, .ref x0), (1, .int (nI x1)), (2, .int (nI x2))]) dX10_compare_44 rfl (by decide) rfl ?_
    exact Blk.sub [1, 2, 3, 0] rfl (V _ _ _ HO HM)
  · have V := V.2 c
    refine r_aload_n 0 dX10_compare_15 rfl rfl ?_
    refine r_getf (ci := 11) (kf := 28) (T := TX10) rfl in_X10 (by decide) wF_X10_65 dX10_compare_16 (MAt.o_ HM) rfl ?_
    refine r_iload_n 1 dX10_compare_19 rfl rfl ?_
    obtain ⟨c, V⟩ := V
    refine r_iald dX10_compare_20 (MAt.g_ln HM) rfl c (by decide) ?_
    show Blk g M_X10_compare (pM x0 h0 nx Q) 21 [(0, .ref x0), (1, .int (nI x1)), (2, .int (nI x2))] [.int (nI (s.ln x1))] h nx 0 0
    refine r_aload_n 0 dX10_compare_21 rfl rfl ?_
    refine r_getf (ci := 11) (kf := 28) (T := TX10) rfl in_X10 (by decide) wF_X10_65 dX10_compare_22 (MAt.o_ HM) rfl ?_
    refine r_iload_n 2 dX10_compare_25 rfl rfl ?_
    obtain ⟨c, V⟩ := V
    refine r_iald dX10_compare_26 (MAt.g_ln HM) rfl c (by decide) ?_
    show Blk g M_X10_compare (pM x0 h0 nx Q) 27 [(0, .ref x0), (1, .int (nI x1)), (2, .int (nI x2))] [.int (nI (s.ln x2)), .int (nI (s.ln x1))] h nx 0 0
    obtain ⟨c, V⟩ := V
    refine r_icmp_geN (tgt := 34) dX10_compare_27 (by decide) c (fun c => ?_) (fun c => ?_)
    · have V := V.1 c
      refine r_iconst (v := (nI 1)) dX10_compare_34 rfl ?_
      exact r_iret dX10_compare_35 rfl (by decide) (by decide) ⟨rfl, HO, _, HM, V⟩
    · have V := V.2 c
      refine r_iconst (v := (-1)) dX10_compare_30 rfl ?_
      refine r_goto (tgt := 35) dX10_compare_31 (by decide) ?_
      exact r_iret dX10_compare_35 rfl (by decide) (by decide) ⟨rfl, HO, _, HM, V⟩
set_option maxRecDepth 20000 in
theorem v_X10_compare_45 {g : xG} {Q : mQ} {s : MV} {x0 : Nat} {x1 : Nat} {x2 : Nat} {x3 : Nat} (V : (x3 < 2 ^ 31 ∧ ((x3 = 0 → (Q (some (.int (nI 0))) s)) ∧ (0 < x3 → (∃ j1 : Nat, ((nI (160 * x1)) + (nI x3 - nI 1)) = nI j1 ∧ j1 < 13440 ∧ (∃ j3 : Nat, ((nI (160 * x2)) + (nI x3 - nI 1)) = nI j3 ∧ j3 < 13440 ∧ (((s.lb j1) < 2 ^ 63 ∧ (s.lb j3) < 2 ^ 63) ∧ (((s.lb j1) = (s.lb j3) → (1 ≤ x3 ∧ BlkM g M_X10_compare x0 Q 45 [(0, .ref x0), (1, .int (nI x1)), (2, .int (nI x2)), (3, .int (nI (x3 - 1) - nI 1))] [] s)) ∧ (¬ (s.lb j1) = (s.lb j3) → (((s.lb j1) < 2 ^ 63 ∧ (s.lb j3) < 2 ^ 63) ∧ (((s.lb j3) ≤ (s.lb j1) → (Q (some (.int (nI 1))) s)) ∧ ((s.lb j1) < (s.lb j3) → (Q (some (.int (-1))) s))))))))))))) : BlkM g M_X10_compare x0 Q 45 [(0, .ref x0), (1, .int (nI x1)), (2, .int (nI x2)), (3, .int (nI x3 - nI 1))] [] s := by
  intro h0 h nx HO HM
  refine r_iload_n 3 dX10_compare_45 rfl rfl ?_
  obtain ⟨c, V⟩ := V
  refine r_if_ltP (tgt := 105) dX10_compare_46 (by decide) c (fun c => ?_) (fun c => ?_)
  · have V := V.1 c
    refine r_iconst (v := (nI 0)) dX10_compare_105 rfl ?_
    exact r_iret dX10_compare_106 rfl (by decide) (by decide) ⟨rfl, HO, _, HM, V⟩
  · have V := V.2 c
    refine r_aload_n 0 dX10_compare_49 rfl rfl ?_
    refine r_getf (ci := 11) (kf := 27) (T := TX10) rfl in_X10 (by decide) wF_X10_62 dX10_compare_50 (MAt.o_ HM) rfl ?_
    refine r_sipush (v := (nI 160)) dX10_compare_53 rfl ?_
    refine r_iload_n 1 dX10_compare_56 rfl rfl ?_
    refine r_imulN dX10_compare_57 ?_
    refine r_iload_n 3 dX10_compare_58 rfl rfl ?_
    refine r_iadd dX10_compare_59 ?_
    obtain ⟨j1, e2, V⟩ := V
    obtain ⟨c, V⟩ := V
    refine r_lald dX10_compare_60 (MAt.g_lb HM) e2 c (by decide) ?_
    show Blk g M_X10_compare (pM x0 h0 nx Q) 61 [(0, .ref x0), (1, .int (nI x1)), (2, .int (nI x2)), (3, .int (nI x3 - nI 1))] [.long (lN (s.lb j1))] h nx 0 0
    refine r_lstore (L' := [(4, .long (lN (s.lb j1))), (0, .ref x0), (1, .int (nI x1)), (2, .int (nI x2)), (3, .int (nI x3 - nI 1))]) dX10_compare_61 (by decide) rfl ?_
    refine r_aload_n 1 dX10_compare_63 rfl rfl ?_
    refine r_getf (ci := 11) (kf := 27) (T := TX10) rfl in_X10 (by decide) wF_X10_62 dX10_compare_64 (MAt.o_ HM) rfl ?_
    refine r_sipush (v := (nI 160)) dX10_compare_67 rfl ?_
    refine r_iload_n 3 dX10_compare_70 rfl rfl ?_
    refine r_imulN dX10_compare_71 ?_
    refine r_iload_n 4 dX10_compare_72 rfl rfl ?_
    refine r_iadd dX10_compare_73 ?_
    obtain ⟨j3, e4, V⟩ := V
    obtain ⟨c, V⟩ := V
    refine r_lald dX10_compare_74 (MAt.g_lb HM) e4 c (by decide) ?_
    show Blk g M_X10_compare (pM x0 h0 nx Q) 75 [(4, .long (lN (s.lb j1))), (0, .ref x0), (1, .int (nI x1)), (2, .int (nI x2)), (3, .int (nI x3 - nI 1))] [.long (lN (s.lb j3))] h nx 0 0
    refine r_lstore (L' := [(6, .long (lN (s.lb j3))), (4, .long (lN (s.lb j1))), (0, .ref x0), (1, .int (nI x1)), (2, .int (nI x2)), (3, .int (nI x3 - nI 1))]) dX10_compare_75 (by decide) rfl ?_
    refine r_lload 1 dX10_compare_77 rfl ?_
    refine r_lload 0 dX10_compare_79 rfl ?_
    obtain ⟨c, V⟩ := V
    refine r_lif_eq (tgt := 99) dX10_compare_81 dX10_compare_82 (by decide) c (fun c => ?_) (fun c => ?_)
    · have V := V.1 c
      obtain ⟨c, V⟩ := V
      refine r_idecP 5 (L' := [(3, .int (nI (x3 - 1) - nI 1)), (6, .long (lN (s.lb j3))), (4, .long (lN (s.lb j1))), (0, .ref x0), (1, .int (nI x1)), (2, .int (nI x2))]) dX10_compare_99 rfl c (by decide) rfl ?_
      refine r_goto (tgt := 45) dX10_compare_102 (by decide) ?_
      exact Blk.sub [3, 4, 5, 0] rfl (V _ _ _ HO HM)
    · have V := V.2 c
      refine r_lload 1 dX10_compare_85 rfl ?_
      refine r_lload 0 dX10_compare_87 rfl ?_
      obtain ⟨c, V⟩ := V
      refine r_lif_ge (tgt := 97) dX10_compare_89 dX10_compare_90 (by decide) c (fun c => ?_) (fun c => ?_)
      · have V := V.1 c
        refine r_iconst (v := (nI 1)) dX10_compare_97 rfl ?_
        exact r_iret dX10_compare_98 rfl (by decide) (by decide) ⟨rfl, HO, _, HM, V⟩
      · have V := V.2 c
        refine r_iconst (v := (-1)) dX10_compare_93 rfl ?_
        refine r_goto (tgt := 98) dX10_compare_94 (by decide) ?_
        exact r_iret dX10_compare_98 rfl (by decide) (by decide) ⟨rfl, HO, _, HM, V⟩
set_option maxRecDepth 20000 in
theorem v_X10_below_0 {g : xG} {Q : mQ} {s : MV} {x0 : Nat} {x1 : Nat} {x2 : Nat} (V : (CtM g M_X10_set [.ref x0, .int (nI x2), .long (lN 1)] x0 s (fun r s3 => r = none ∧ BlkM g M_X10_below x0 Q 8 [(0, .ref x0), (1, .int (nI x1)), (2, .int (nI x2)), (3, .int (nI 0))] [] s3))) : BlkM g M_X10_below x0 Q 0 [(0, .ref x0), (1, .int (nI x1)), (2, .int (nI x2))] [] s := by
  intro h0 h nx HO HM
  refine r_aload_n 0 dX10_below_0 rfl rfl ?_
  refine r_iload_n 2 dX10_below_1 rfl rfl ?_
  refine r_lconst (v := (lN 1)) dX10_below_2 rfl ?_
  refine r_callV (M2 := M_X10_set) (ci := 11) (n := 2) (As := [.int (nI x2), .long (lN 1)]) rfl (wl5 wM_X10_82 wi_X10_set wS_X10_set wI_StateSharesModel wc_X10_set) (by decide +kernel) (by decide) rfl rfl (Nat.le_of_ble_eq_true rfl) dX10_below_3 (MAt.o_ HM) (by decide) (by decide) (Ct.imp (V _ _ HM) (fun r h1 n2 V => ?_))
  obtain ⟨rfl, Oh1, s3, HMh1, V⟩ := V
  have HOh1 := Off.tr HO Oh1
  obtain ⟨rfl, V⟩ := V
  show Blk g M_X10_below (pM x0 h0 nx Q) 6 [(0, .ref x0), (1, .int (nI x1)), (2, .int (nI x2))] [] h1 nx 0 0
  refine r_iconst (v := (nI 0)) dX10_below_6 rfl ?_
  refine r_istore_n (L' := [(3, .int (nI 0)), (0, .ref x0), (1, .int (nI x1)), (2, .int (nI x2))]) dX10_below_7 rfl (by decide) rfl ?_
  exact Blk.sub [1, 2, 3, 0] rfl (V _ _ _ HOh1 HMh1)
set_option maxRecDepth 20000 in
theorem v_X10_below_8 {g : xG} {Q : mQ} {s : MV} {x0 : Nat} {x1 : Nat} {x2 : Nat} {x3 : Nat} (V : ((x3 < 2 ^ 31 ∧ 168 < 2 ^ 31) ∧ ((168 ≤ x3 → (Q none s)) ∧ (x3 < 168 → BlkM g M_X10_below x0 Q 18 [(0, .ref x0), (1, .int (nI x1)), (2, .int (nI x2)), (3, .int (nI x3)), (4, .int (nI 0))] [] s)))) : BlkM g M_X10_below x0 Q 8 [(0, .ref x0), (1, .int (nI x1)), (2, .int (nI x2)), (3, .int (nI x3))] [] s := by
  intro h0 h nx HO HM
  refine r_iload_n 3 dX10_below_8 rfl rfl ?_
  refine r_sipush (v := (nI 168)) dX10_below_9 rfl ?_
  obtain ⟨c, V⟩ := V
  refine r_icmp_geN (tgt := 59) dX10_below_12 (by decide) c (fun c => ?_) (fun c => ?_)
  · have V := V.1 c
    exact r_vret dX10_below_59 rfl (by decide) (by decide) ⟨rfl, HO, _, HM, V⟩
  · have V := V.2 c
    refine r_iconst (v := (nI 0)) dX10_below_15 rfl ?_
    refine r_istore (L' := [(4, .int (nI 0)), (0, .ref x0), (1, .int (nI x1)), (2, .int (nI x2)), (3, .int (nI x3))]) dX10_below_16 (by decide) rfl ?_
    exact Blk.sub [1, 2, 3, 4, 0] rfl (V _ _ _ HO HM)
set_option maxRecDepth 20000 in
theorem v_X10_below_18 {g : xG} {Q : mQ} {s : MV} {x0 : Nat} {x1 : Nat} {x2 : Nat} {x3 : Nat} {x4 : Nat} (V : (((168 * x1) + x3) < 14112 ∧ ((x4 < 2 ^ 31 ∧ (s.pw ((168 * x1) + x3)) < 2 ^ 31) ∧ (((s.pw ((168 * x1) + x3)) ≤ x4 → BlkM g M_X10_below x0 Q 8 [(0, .ref x0), (1, .int (nI x1)), (2, .int (nI x2)), (3, .int (nI (x3 + 1)))] [] s) ∧ (x4 < (s.pw ((168 * x1) + x3)) → (x3 < 168 ∧ ((s.pr x3) < 2 ^ 31 ∧ (CtM g M_X10_times [.ref x0, .int (nI x2), .long (lN (s.pr x3))] x0 s (fun r s3 => r = none ∧ BlkM g M_X10_below x0 Q 18 [(0, .ref x0), (1, .int (nI x1)), (2, .int (nI x2)), (3, .int (nI x3)), (4, .int (nI (x4 + 1)))] [] s3))))))))) : BlkM g M_X10_below x0 Q 18 [(0, .ref x0), (1, .int (nI x1)), (2, .int (nI x2)), (3, .int (nI x3)), (4, .int (nI x4))] [] s := by
  intro h0 h nx HO HM
  refine r_iload 4 dX10_below_18 rfl ?_
  refine r_aload_n 0 dX10_below_20 rfl rfl ?_
  refine r_getf (ci := 11) (kf := 29) (T := TX10) rfl in_X10 (by decide) wF_X10_68 dX10_below_21 (MAt.o_ HM) rfl ?_
  refine r_sipush (v := (nI 168)) dX10_below_24 rfl ?_
  refine r_iload_n 1 dX10_below_27 rfl rfl ?_
  refine r_imulN dX10_below_28 ?_
  refine r_iload_n 3 dX10_below_29 rfl rfl ?_
  refine r_iaddN dX10_below_30 ?_
  obtain ⟨c, V⟩ := V
  refine r_iald dX10_below_31 (MAt.g_pw HM) rfl c (by decide) ?_
  show Blk g M_X10_below (pM x0 h0 nx Q) 32 [(0, .ref x0), (1, .int (nI x1)), (2, .int (nI x2)), (3, .int (nI x3)), (4, .int (nI x4))] [.int (nI (s.pw ((168 * x1) + x3))), .int (nI x4)] h nx 0 0
  obtain ⟨c, V⟩ := V
  refine r_icmp_geN (tgt := 53) dX10_below_32 (by decide) c (fun c => ?_) (fun c => ?_)
  · have V := V.1 c
    refine r_iincN 3 (b := 1) (L' := [(3, .int (nI (x3 + 1))), (0, .ref x0), (1, .int (nI x1)), (2, .int (nI x2)), (4, .int (nI x4))]) dX10_below_53 rfl rfl (by decide) rfl ?_
    refine r_goto (tgt := 8) dX10_below_56 (by decide) ?_
    exact Blk.sub [1, 2, 3, 0] rfl (V _ _ _ HO HM)
  · have V := V.2 c
    refine r_aload_n 0 dX10_below_35 rfl rfl ?_
    refine r_iload_n 2 dX10_below_36 rfl rfl ?_
    refine r_aload_n 0 dX10_below_37 rfl rfl ?_
    refine r_getf (ci := 11) (kf := 26) (T := TX10) rfl in_X10 (by decide) wF_X10_59 dX10_below_38 (MAt.o_ HM) rfl ?_
    refine r_iload_n 3 dX10_below_41 rfl rfl ?_
    obtain ⟨c, V⟩ := V
    refine r_iald dX10_below_42 (MAt.g_pr HM) rfl c (by decide) ?_
    show Blk g M_X10_below (pM x0 h0 nx Q) 43 [(0, .ref x0), (1, .int (nI x1)), (2, .int (nI x2)), (3, .int (nI x3)), (4, .int (nI x4))] [.int (nI (s.pr x3)), .int (nI x2), .ref x0] h nx 0 0
    obtain ⟨c, V⟩ := V
    refine r_i2lN dX10_below_43 c ?_
    refine r_callV (M2 := M_X10_times) (ci := 11) (n := 2) (As := [.int (nI x2), .long (lN (s.pr x3))]) rfl (wl5 wM_X10_88 wi_X10_times wS_X10_times wI_StateSharesModel wc_X10_times) (by decide +kernel) (by decide) rfl rfl (Nat.le_of_ble_eq_true rfl) dX10_below_44 (MAt.o_ HM) (by decide) (by decide) (Ct.imp (V _ _ HM) (fun r h1 n2 V => ?_))
    obtain ⟨rfl, Oh1, s3, HMh1, V⟩ := V
    have HOh1 := Off.tr HO Oh1
    obtain ⟨rfl, V⟩ := V
    show Blk g M_X10_below (pM x0 h0 nx Q) 47 [(0, .ref x0), (1, .int (nI x1)), (2, .int (nI x2)), (3, .int (nI x3)), (4, .int (nI x4))] [] h1 nx 0 0
    refine r_iincN 4 (b := 1) (L' := [(4, .int (nI (x4 + 1))), (0, .ref x0), (1, .int (nI x1)), (2, .int (nI x2)), (3, .int (nI x3))]) dX10_below_47 rfl rfl (by decide) rfl ?_
    refine r_goto (tgt := 18) dX10_below_50 (by decide) ?_
    exact Blk.sub [1, 2, 3, 4, 0] rfl (V _ _ _ HOh1 HMh1)
set_option maxRecDepth 20000 in
theorem v_X10_isLong_0 {g : xG} {Q : mQ} {s : MV} {x0 : Nat} {x1 : Nat} (V : (CtM g M_X10_below [.ref x0, .int (nI x1), .int (nI 73)] x0 s (fun r s3 => r = none ∧ (CtM g M_X10_compare [.ref x0, .int (nI x1), .int (nI 83)] x0 s3 (fun r s6 => ∃ v7 : Int32, r = some (.int v7) ∧ ((0 ≤ v7 → (Q (some (.int (nI 1))) s6)) ∧ (¬ 0 ≤ v7 → (CtM g M_X10_compare [.ref x0, .int (nI 73), .int (nI 83)] x0 s6 (fun r s10 => ∃ v11 : Int32, r = some (.int v11) ∧ ((v11 < 0 → (Q (some (.int (nI 0))) s10)) ∧ (¬ v11 < 0 → (Q (some (.int (nI 1))) s10)))))))))))) : BlkM g M_X10_isLong x0 Q 0 [(0, .ref x0), (1, .int (nI x1))] [] s := by
  intro h0 h nx HO HM
  refine r_aload_n 0 dX10_isLong_0 rfl rfl ?_
  refine r_iload_n 1 dX10_isLong_1 rfl rfl ?_
  refine r_bipush (v := (nI 73)) dX10_isLong_2 rfl ?_
  refine r_callV (M2 := M_X10_below) (ci := 11) (n := 2) (As := [.int (nI x1), .int (nI 73)]) rfl (wl5 wM_X10_239 wi_X10_below wS_X10_below wI_StateSharesModel wc_X10_below) (by decide +kernel) (by decide) rfl rfl (Nat.le_of_ble_eq_true rfl) dX10_isLong_4 (MAt.o_ HM) (by decide) (by decide) (Ct.imp (V _ _ HM) (fun r h1 n2 V => ?_))
  obtain ⟨rfl, Oh1, s3, HMh1, V⟩ := V
  have HOh1 := Off.tr HO Oh1
  obtain ⟨rfl, V⟩ := V
  show Blk g M_X10_isLong (pM x0 h0 nx Q) 7 [(0, .ref x0), (1, .int (nI x1))] [] h1 nx 0 0
  refine r_aload_n 0 dX10_isLong_7 rfl rfl ?_
  refine r_iload_n 1 dX10_isLong_8 rfl rfl ?_
  refine r_bipush (v := (nI 83)) dX10_isLong_9 rfl ?_
  refine r_callV (M2 := M_X10_compare) (ci := 11) (n := 2) (As := [.int (nI x1), .int (nI 83)]) rfl (wl5 wM_X10_242 wi_X10_compare wS_X10_compare wI_StateSharesModel wc_X10_compare) (by decide +kernel) (by decide) rfl rfl (Nat.le_of_ble_eq_true rfl) dX10_isLong_11 (MAt.o_ HMh1) (by decide) (by decide) (Ct.imp (V _ _ HMh1) (fun r h4 n5 V => ?_))
  obtain ⟨rfl, Oh4, s6, HMh4, V⟩ := V
  have HOh4 := Off.tr HOh1 Oh4
  obtain ⟨v7, rfl, V⟩ := V
  show Blk g M_X10_isLong (pM x0 h0 nx Q) 14 [(0, .ref x0), (1, .int (nI x1))] [.int v7] h4 nx 0 0
  refine r_if_ge (tgt := 28) dX10_isLong_14 (by decide) (fun c => ?_) (fun c => ?_)
  · have V := V.1 c
    refine r_iconst (v := (nI 1)) dX10_isLong_28 rfl ?_
    refine r_goto (tgt := 33) dX10_isLong_29 (by decide) ?_
    exact r_zret (ty := .boolean) dX10_isLong_33 rfl rfl (by decide) (by decide) ⟨rfl, HOh4, _, HMh4, V⟩
  · have V := V.2 c
    refine r_aload_n 0 dX10_isLong_17 rfl rfl ?_
    refine r_bipush (v := (nI 73)) dX10_isLong_18 rfl ?_
    refine r_bipush (v := (nI 83)) dX10_isLong_20 rfl ?_
    refine r_callV (M2 := M_X10_compare) (ci := 11) (n := 2) (As := [.int (nI 73), .int (nI 83)]) rfl (wl5 wM_X10_242 wi_X10_compare wS_X10_compare wI_StateSharesModel wc_X10_compare) (by decide +kernel) (by decide) rfl rfl (Nat.le_of_ble_eq_true rfl) dX10_isLong_22 (MAt.o_ HMh4) (by decide) (by decide) (Ct.imp (V _ _ HMh4) (fun r h8 n9 V => ?_))
    obtain ⟨rfl, Oh8, s10, HMh8, V⟩ := V
    have HOh8 := Off.tr HOh4 Oh8
    obtain ⟨v11, rfl, V⟩ := V
    show Blk g M_X10_isLong (pM x0 h0 nx Q) 25 [(0, .ref x0), (1, .int (nI x1))] [.int v11] h8 nx 0 0
    refine r_if_lt (tgt := 32) dX10_isLong_25 (by decide) (fun c => ?_) (fun c => ?_)
    · have V := V.1 c
      refine r_iconst (v := (nI 0)) dX10_isLong_32 rfl ?_
      exact r_zret (ty := .boolean) dX10_isLong_33 rfl rfl (by decide) (by decide) ⟨rfl, HOh8, _, HMh8, V⟩
    · have V := V.2 c
      refine r_iconst (v := (nI 1)) dX10_isLong_28 rfl ?_
      refine r_goto (tgt := 33) dX10_isLong_29 (by decide) ?_
      exact r_zret (ty := .boolean) dX10_isLong_33 rfl rfl (by decide) (by decide) ⟨rfl, HOh8, _, HMh8, V⟩
set_option maxRecDepth 20000 in
theorem v_X10_digits_0 {g : xG} {Q : mQ} {s : MV} {x0 : Nat} {x1 : Nat} {x2 : Nat} (V : ((x2 < 2 ^ 31 ∧ 80 < 2 ^ 31) ∧ ((80 ≤ x2 → (Q (some (.long (lN 0))) s)) ∧ (x2 < 80 → (x1 < 84 ∧ ((((2 * x2) + 1) < 2 ^ 31 ∧ (s.ln x1) < 2 ^ 31) ∧ (((s.ln x1) ≤ ((2 * x2) + 1) → (x1 < 84 ∧ (((2 * x2) < 2 ^ 31 ∧ (s.ln x1) < 2 ^ 31) ∧ (((s.ln x1) ≤ (2 * x2) → (Q (some (.long (lN 0))) s)) ∧ ((2 * x2) < (s.ln x1) → (((160 * x1) + (2 * x2)) < 13440 ∧ (Q (some (.long (lN (0 + (s.lb ((160 * x1) + (2 * x2))))))) s))))))) ∧ (((2 * x2) + 1) < (s.ln x1) → ((((160 * x1) + (2 * x2)) + 1) < 13440 ∧ (x1 < 84 ∧ (((2 * x2) < 2 ^ 31 ∧ (s.ln x1) < 2 ^ 31) ∧ (((s.ln x1) ≤ (2 * x2) → (Q (some (.long (lN (((s.lb (((160 * x1) + (2 * x2)) + 1)) * 1000000000) + 0)))) s)) ∧ ((2 * x2) < (s.ln x1) → (((160 * x1) + (2 * x2)) < 13440 ∧ (Q (some (.long (lN (((s.lb (((160 * x1) + (2 * x2)) + 1)) * 1000000000) + (s.lb ((160 * x1) + (2 * x2))))))) s))))))))))))))) : BlkM g M_X10_digits x0 Q 0 [(0, .ref x0), (1, .int (nI x1)), (2, .int (nI x2))] [] s := by
  intro h0 h nx HO HM
  refine r_iload_n 2 dX10_digits_0 rfl rfl ?_
  refine r_bipush (v := (nI 80)) dX10_digits_1 rfl ?_
  obtain ⟨c, V⟩ := V
  refine r_icmp_geN (tgt := 78) dX10_digits_3 (by decide) c (fun c => ?_) (fun c => ?_)
  · have V := V.1 c
    refine r_lconst (v := (lN 0)) dX10_digits_78 rfl ?_
    exact r_lret dX10_digits_79 rfl (by decide) (by decide) ⟨rfl, HO, _, HM, V⟩
  · have V := V.2 c
    refine r_iconst (v := (nI 2)) dX10_digits_6 rfl ?_
    refine r_iload_n 2 dX10_digits_7 rfl rfl ?_
    refine r_imulN dX10_digits_8 ?_
    refine r_iconst (v := (nI 1)) dX10_digits_9 rfl ?_
    refine r_iaddN dX10_digits_10 ?_
    refine r_aload_n 0 dX10_digits_11 rfl rfl ?_
    refine r_getf (ci := 11) (kf := 28) (T := TX10) rfl in_X10 (by decide) wF_X10_65 dX10_digits_12 (MAt.o_ HM) rfl ?_
    refine r_iload_n 1 dX10_digits_15 rfl rfl ?_
    obtain ⟨c, V⟩ := V
    refine r_iald dX10_digits_16 (MAt.g_ln HM) rfl c (by decide) ?_
    show Blk g M_X10_digits (pM x0 h0 nx Q) 17 [(0, .ref x0), (1, .int (nI x1)), (2, .int (nI x2))] [.int (nI (s.ln x1)), .int (nI ((2 * x2) + 1))] h nx 0 0
    obtain ⟨c, V⟩ := V
    refine r_icmp_geN (tgt := 43) dX10_digits_17 (by decide) c (fun c => ?_) (fun c => ?_)
    · have V := V.1 c
      refine r_lconst (v := (lN 0)) dX10_digits_43 rfl ?_
      refine r_iconst (v := (nI 2)) dX10_digits_44 rfl ?_
      refine r_iload_n 2 dX10_digits_45 rfl rfl ?_
      refine r_imulN dX10_digits_46 ?_
      refine r_aload_n 0 dX10_digits_47 rfl rfl ?_
      refine r_getf (ci := 11) (kf := 28) (T := TX10) rfl in_X10 (by decide) wF_X10_65 dX10_digits_48 (MAt.o_ HM) rfl ?_
      refine r_iload_n 1 dX10_digits_51 rfl rfl ?_
      obtain ⟨c, V⟩ := V
      refine r_iald dX10_digits_52 (MAt.g_ln HM) rfl c (by decide) ?_
      show Blk g M_X10_digits (pM x0 h0 nx Q) 53 [(0, .ref x0), (1, .int (nI x1)), (2, .int (nI x2))] [.int (nI (s.ln x1)), .int (nI (2 * x2)), .long (lN 0)] h nx 0 0
      obtain ⟨c, V⟩ := V
      refine r_icmp_geN (tgt := 73) dX10_digits_53 (by decide) c (fun c => ?_) (fun c => ?_)
      · have V := V.1 c
        refine r_lconst (v := (lN 0)) dX10_digits_73 rfl ?_
        refine r_laddN dX10_digits_74 ?_
        refine r_goto (tgt := 79) dX10_digits_75 (by decide) ?_
        exact r_lret dX10_digits_79 rfl (by decide) (by decide) ⟨rfl, HO, _, HM, V⟩
      · have V := V.2 c
        refine r_aload_n 0 dX10_digits_56 rfl rfl ?_
        refine r_getf (ci := 11) (kf := 27) (T := TX10) rfl in_X10 (by decide) wF_X10_62 dX10_digits_57 (MAt.o_ HM) rfl ?_
        refine r_sipush (v := (nI 160)) dX10_digits_60 rfl ?_
        refine r_iload_n 1 dX10_digits_63 rfl rfl ?_
        refine r_imulN dX10_digits_64 ?_
        refine r_iconst (v := (nI 2)) dX10_digits_65 rfl ?_
        refine r_iload_n 2 dX10_digits_66 rfl rfl ?_
        refine r_imulN dX10_digits_67 ?_
        refine r_iaddN dX10_digits_68 ?_
        obtain ⟨c, V⟩ := V
        refine r_lald dX10_digits_69 (MAt.g_lb HM) rfl c (by decide) ?_
        show Blk g M_X10_digits (pM x0 h0 nx Q) 70 [(0, .ref x0), (1, .int (nI x1)), (2, .int (nI x2))] [.long (lN (s.lb ((160 * x1) + (2 * x2)))), .long (lN 0)] h nx 0 0
        refine r_goto (tgt := 74) dX10_digits_70 (by decide) ?_
        refine r_laddN dX10_digits_74 ?_
        refine r_goto (tgt := 79) dX10_digits_75 (by decide) ?_
        exact r_lret dX10_digits_79 rfl (by decide) (by decide) ⟨rfl, HO, _, HM, V⟩
    · have V := V.2 c
      refine r_aload_n 0 dX10_digits_20 rfl rfl ?_
      refine r_getf (ci := 11) (kf := 27) (T := TX10) rfl in_X10 (by decide) wF_X10_62 dX10_digits_21 (MAt.o_ HM) rfl ?_
      refine r_sipush (v := (nI 160)) dX10_digits_24 rfl ?_
      refine r_iload_n 1 dX10_digits_27 rfl rfl ?_
      refine r_imulN dX10_digits_28 ?_
      refine r_iconst (v := (nI 2)) dX10_digits_29 rfl ?_
      refine r_iload_n 2 dX10_digits_30 rfl rfl ?_
      refine r_imulN dX10_digits_31 ?_
      refine r_iaddN dX10_digits_32 ?_
      refine r_iconst (v := (nI 1)) dX10_digits_33 rfl ?_
      refine r_iaddN dX10_digits_34 ?_
      obtain ⟨c, V⟩ := V
      refine r_lald dX10_digits_35 (MAt.g_lb HM) rfl c (by decide) ?_
      show Blk g M_X10_digits (pM x0 h0 nx Q) 36 [(0, .ref x0), (1, .int (nI x1)), (2, .int (nI x2))] [.long (lN (s.lb (((160 * x1) + (2 * x2)) + 1)))] h nx 0 0
      refine r_ldc2 (v := (lN 1000000000)) wL_X10_217 dX10_digits_36 ?_
      refine r_lmulN dX10_digits_39 ?_
      refine r_goto (tgt := 44) dX10_digits_40 (by decide) ?_
      refine r_iconst (v := (nI 2)) dX10_digits_44 rfl ?_
      refine r_iload_n 2 dX10_digits_45 rfl rfl ?_
      refine r_imulN dX10_digits_46 ?_
      refine r_aload_n 0 dX10_digits_47 rfl rfl ?_
      refine r_getf (ci := 11) (kf := 28) (T := TX10) rfl in_X10 (by decide) wF_X10_65 dX10_digits_48 (MAt.o_ HM) rfl ?_
      refine r_iload_n 1 dX10_digits_51 rfl rfl ?_
      obtain ⟨c, V⟩ := V
      refine r_iald dX10_digits_52 (MAt.g_ln HM) rfl c (by decide) ?_
      show Blk g M_X10_digits (pM x0 h0 nx Q) 53 [(0, .ref x0), (1, .int (nI x1)), (2, .int (nI x2))] [.int (nI (s.ln x1)), .int (nI (2 * x2)), .long (lN ((s.lb (((160 * x1) + (2 * x2)) + 1)) * 1000000000))] h nx 0 0
      obtain ⟨c, V⟩ := V
      refine r_icmp_geN (tgt := 73) dX10_digits_53 (by decide) c (fun c => ?_) (fun c => ?_)
      · have V := V.1 c
        refine r_lconst (v := (lN 0)) dX10_digits_73 rfl ?_
        refine r_laddN dX10_digits_74 ?_
        refine r_goto (tgt := 79) dX10_digits_75 (by decide) ?_
        exact r_lret dX10_digits_79 rfl (by decide) (by decide) ⟨rfl, HO, _, HM, V⟩
      · have V := V.2 c
        refine r_aload_n 0 dX10_digits_56 rfl rfl ?_
        refine r_getf (ci := 11) (kf := 27) (T := TX10) rfl in_X10 (by decide) wF_X10_62 dX10_digits_57 (MAt.o_ HM) rfl ?_
        refine r_sipush (v := (nI 160)) dX10_digits_60 rfl ?_
        refine r_iload_n 1 dX10_digits_63 rfl rfl ?_
        refine r_imulN dX10_digits_64 ?_
        refine r_iconst (v := (nI 2)) dX10_digits_65 rfl ?_
        refine r_iload_n 2 dX10_digits_66 rfl rfl ?_
        refine r_imulN dX10_digits_67 ?_
        refine r_iaddN dX10_digits_68 ?_
        obtain ⟨c, V⟩ := V
        refine r_lald dX10_digits_69 (MAt.g_lb HM) rfl c (by decide) ?_
        show Blk g M_X10_digits (pM x0 h0 nx Q) 70 [(0, .ref x0), (1, .int (nI x1)), (2, .int (nI x2))] [.long (lN (s.lb ((160 * x1) + (2 * x2)))), .long (lN ((s.lb (((160 * x1) + (2 * x2)) + 1)) * 1000000000))] h nx 0 0
        refine r_goto (tgt := 74) dX10_digits_70 (by decide) ?_
        refine r_laddN dX10_digits_74 ?_
        refine r_goto (tgt := 79) dX10_digits_75 (by decide) ?_
        exact r_lret dX10_digits_79 rfl (by decide) (by decide) ⟨rfl, HO, _, HM, V⟩
set_option maxRecDepth 20000 in
theorem v_X10_partOf_0 {g : xG} {Q : mQ} {s : MV} {x0 : Nat} {x1 : Nat} {x2 : Int32} (V : ((0 ≤ x2 → (CtM g M_X10_below [.ref x0, .int (nI x1), .int (nI 73)] x0 s (fun r s3 => r = none ∧ (¬ (nI 2) = 0 ∧ ((¬ (x2 - x2 / (nI 2) * (nI 2)) = 0 → (¬ (nI 2) = 0 ∧ (CtM g M_X10_digits [.ref x0, .int (nI 73), .int (x2 / (nI 2))] x0 s3 (fun r s6 => ∃ v7 : Nat, r = some (.long (lN v7)) ∧ (Q (some (.long (lN v7))) s6))))) ∧ ((x2 - x2 / (nI 2) * (nI 2)) = 0 → (¬ (nI 2) = 0 ∧ (CtM g M_X10_digits [.ref x0, .int (nI x1), .int (x2 / (nI 2))] x0 s3 (fun r s10 => ∃ v11 : Nat, r = some (.long (lN v11)) ∧ (Q (some (.long (lN v11))) s10)))))))))) ∧ (¬ 0 ≤ x2 → (Q (some (.long (lN 0))) s)))) : BlkM g M_X10_partOf x0 Q 0 [(0, .ref x0), (1, .int (nI x1)), (2, .int x2)] [] s := by
  intro h0 h nx HO HM
  refine r_iload_n 2 dX10_partOf_0 rfl rfl ?_
  refine r_if_ge (tgt := 6) dX10_partOf_1 (by decide) (fun c => ?_) (fun c => ?_)
  · have V := V.1 c
    refine r_aload_n 0 dX10_partOf_6 rfl rfl ?_
    refine r_iload_n 1 dX10_partOf_7 rfl rfl ?_
    refine r_bipush (v := (nI 73)) dX10_partOf_8 rfl ?_
    refine r_callV (M2 := M_X10_below) (ci := 11) (n := 2) (As := [.int (nI x1), .int (nI 73)]) rfl (wl5 wM_X10_239 wi_X10_below wS_X10_below wI_StateSharesModel wc_X10_below) (by decide +kernel) (by decide) rfl rfl (Nat.le_of_ble_eq_true rfl) dX10_partOf_10 (MAt.o_ HM) (by decide) (by decide) (Ct.imp (V _ _ HM) (fun r h1 n2 V => ?_))
    obtain ⟨rfl, Oh1, s3, HMh1, V⟩ := V
    have HOh1 := Off.tr HO Oh1
    obtain ⟨rfl, V⟩ := V
    show Blk g M_X10_partOf (pM x0 h0 nx Q) 13 [(0, .ref x0), (1, .int (nI x1)), (2, .int x2)] [] h1 nx 0 0
    refine r_aload_n 0 dX10_partOf_13 rfl rfl ?_
    refine r_iload_n 2 dX10_partOf_14 rfl rfl ?_
    refine r_iconst (v := (nI 2)) dX10_partOf_15 rfl ?_
    obtain ⟨c, V⟩ := V
    refine r_irem dX10_partOf_16 c ?_
    refine r_if_ne (tgt := 24) dX10_partOf_17 (by decide) (fun c => ?_) (fun c => ?_)
    · have V := V.1 c
      refine r_bipush (v := (nI 73)) dX10_partOf_24 rfl ?_
      refine r_iload_n 2 dX10_partOf_26 rfl rfl ?_
      refine r_iconst (v := (nI 2)) dX10_partOf_27 rfl ?_
      obtain ⟨c, V⟩ := V
      refine r_idiv dX10_partOf_28 c ?_
      refine r_callV (M2 := M_X10_digits) (ci := 11) (n := 2) (As := [.int (nI 73), .int (x2 / (nI 2))]) rfl (wl5 wM_X10_245 wi_X10_digits wS_X10_digits wI_StateSharesModel wc_X10_digits) (by decide +kernel) (by decide) rfl rfl (Nat.le_of_ble_eq_true rfl) dX10_partOf_29 (MAt.o_ HMh1) (by decide) (by decide) (Ct.imp (V _ _ HMh1) (fun r h4 n5 V => ?_))
      obtain ⟨rfl, Oh4, s6, HMh4, V⟩ := V
      have HOh4 := Off.tr HOh1 Oh4
      obtain ⟨v7, rfl, V⟩ := V
      show Blk g M_X10_partOf (pM x0 h0 nx Q) 32 [(0, .ref x0), (1, .int (nI x1)), (2, .int x2)] [.long (lN v7)] h4 nx 0 0
      exact r_lret dX10_partOf_32 rfl (by decide) (by decide) ⟨rfl, HOh4, _, HMh4, V⟩
    · have V := V.2 c
      refine r_iload_n 1 dX10_partOf_20 rfl rfl ?_
      refine r_goto (tgt := 26) dX10_partOf_21 (by decide) ?_
      refine r_iload_n 2 dX10_partOf_26 rfl rfl ?_
      refine r_iconst (v := (nI 2)) dX10_partOf_27 rfl ?_
      obtain ⟨c, V⟩ := V
      refine r_idiv dX10_partOf_28 c ?_
      refine r_callV (M2 := M_X10_digits) (ci := 11) (n := 2) (As := [.int (nI x1), .int (x2 / (nI 2))]) rfl (wl5 wM_X10_245 wi_X10_digits wS_X10_digits wI_StateSharesModel wc_X10_digits) (by decide +kernel) (by decide) rfl rfl (Nat.le_of_ble_eq_true rfl) dX10_partOf_29 (MAt.o_ HMh1) (by decide) (by decide) (Ct.imp (V _ _ HMh1) (fun r h8 n9 V => ?_))
      obtain ⟨rfl, Oh8, s10, HMh8, V⟩ := V
      have HOh8 := Off.tr HOh1 Oh8
      obtain ⟨v11, rfl, V⟩ := V
      show Blk g M_X10_partOf (pM x0 h0 nx Q) 32 [(0, .ref x0), (1, .int (nI x1)), (2, .int x2)] [.long (lN v11)] h8 nx 0 0
      exact r_lret dX10_partOf_32 rfl (by decide) (by decide) ⟨rfl, HOh8, _, HMh8, V⟩
  · have V := V.2 c
    refine r_lconst (v := (lN 0)) dX10_partOf_4 rfl ?_
    exact r_lret dX10_partOf_5 rfl (by decide) (by decide) ⟨rfl, HO, _, HM, V⟩
