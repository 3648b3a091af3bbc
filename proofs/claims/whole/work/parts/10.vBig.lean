set_option maxRecDepth 20000 in
theorem wM_X0_1 : Cond.methodLink "StateShares$Big" 1 (objectInit) ∈ lw_gd := lw_in 193 (by decide +kernel) rfl
set_option maxRecDepth 20000 in
theorem wi_java_lang_Object__init____V : Cond.instanceMethod (objectInit) ∈ lw_gd := lw_in 29 (by decide +kernel) rfl
set_option maxRecDepth 20000 in
theorem wc_java_lang_Object__init____V : Cond.code objectInit ⟨#[0xb1]⟩ 1 none ∈ lw_gd := lw_in 30 (by decide +kernel) rfl
set_option maxRecDepth 20000 in
theorem wM_X0_7 : Cond.methodLink "StateShares$Big" 7 (Lib.Math.max.name) ∈ lw_gd := lw_in 194 (by decide +kernel) rfl
set_option maxRecDepth 20000 in
theorem ws_J9_max_7cf53 : Cond.static (Lib.Math.max.name) ∈ lw_gd := lw_in 35 (by decide +kernel) rfl
set_option maxRecDepth 20000 in
theorem wI_java_lang_Math : Cond.initialized "java/lang/Math" ∈ lw_gd := lw_in 2 (by decide +kernel) rfl
set_option maxRecDepth 20000 in
theorem wc_J9_max_7cf53 : Cond.code Lib.Math.max.name Lib.Math.max.code 2 (some .int) ∈ lw_gd := lw_in 36 (by decide +kernel) rfl
set_option maxRecDepth 20000 in
theorem wA_int : Cond.arrayClass .int ∈ lw_gd := lw_in 69 (by decide +kernel) rfl
set_option maxRecDepth 20000 in
theorem wF_X0_13 : Cond.fieldLink "StateShares$Big" 13 "StateShares$Big" "nines" "[I" ∈ lw_gd := lw_in 195 (by decide +kernel) rfl
set_option maxRecDepth 20000 in
theorem wF_X0_19 : Cond.fieldLink "StateShares$Big" 19 "StateShares$Big" "used" "I" ∈ lw_gd := lw_in 196 (by decide +kernel) rfl
set_option maxRecDepth 20000 in
theorem wL_X0_23 : Cond.constantLong "StateShares$Big" 23 (1000000000) ∈ lw_gd := lw_in 236 (by decide +kernel) rfl
set_option maxRecDepth 20000 in
theorem wM_X0_25 : Cond.methodLink "StateShares$Big" 25 (Lib.Math.min.name) ∈ lw_gd := lw_in 633 (by decide +kernel) rfl
set_option maxRecDepth 20000 in
theorem ws_J9_min_7cf53 : Cond.static (Lib.Math.min.name) ∈ lw_gd := lw_in 32 (by decide +kernel) rfl
set_option maxRecDepth 20000 in
theorem wc_J9_min_7cf53 : Cond.code Lib.Math.min.name Lib.Math.min.code 2 (some .int) ∈ lw_gd := lw_in 33 (by decide +kernel) rfl
set_option maxRecDepth 20000 in
theorem wM_X0_28 : Cond.methodLink "StateShares$Big" 28 (arraycopyName) ∈ lw_gd := lw_in 634 (by decide +kernel) rfl
set_option maxRecDepth 20000 in
theorem wn_java_lang_System_arraycopy__Ljava_lang_Object_ILjava_lang_Object_II_V : Cond.native (arraycopyName) ∈ lw_gd := lw_in 636 (by decide +kernel) rfl
set_option maxRecDepth 20000 in
theorem ws_java_lang_System_arraycopy__Ljava_lang_Object_ILjava_lang_Object_II_V : Cond.static (arraycopyName) ∈ lw_gd := lw_in 635 (by decide +kernel) rfl
set_option maxRecDepth 20000 in
theorem wI_java_lang_System : Cond.initialized "java/lang/System" ∈ lw_gd := lw_in 22 (by decide +kernel) rfl
set_option maxRecDepth 20000 in
theorem wM_X0_34 : Cond.methodLink "StateShares$Big" 34 (yX0_nine) ∈ lw_gd := lw_in 726 (by decide +kernel) rfl
set_option maxRecDepth 20000 in
theorem wi_X0_nine : Cond.instanceMethod (yX0_nine) ∈ lw_gd := lw_in 728 (by decide +kernel) rfl
set_option maxRecDepth 20000 in
theorem wS_X0_nine : Cond.selects "StateShares$Big" (yX0_nine) (yX0_nine) ∈ lw_gd := lw_inS (q := ((yX0_nine), 2)) 29 (by decide +kernel)
set_option maxRecDepth 20000 in
theorem wI_StateShares_Big : Cond.initialized "StateShares$Big" ∈ lw_gd := lw_in 10 (by decide +kernel) rfl
set_option maxRecDepth 20000 in
theorem wc_X0_nine : Cond.code yX0_nine cX0_nine 2 (some .int) ∈ lw_gd := lw_in 729 (by decide +kernel) rfl
set_option maxRecDepth 20000 in
theorem wM_X0_38 : Cond.methodLink "StateShares$Big" 38 (yX0_addProduct) ∈ lw_gd := lw_in 671 (by decide +kernel) rfl
set_option maxRecDepth 20000 in
theorem wi_X0_addProduct : Cond.instanceMethod (yX0_addProduct) ∈ lw_gd := lw_in 652 (by decide +kernel) rfl
set_option maxRecDepth 20000 in
theorem wS_X0_addProduct : Cond.selects "StateShares$Big" (yX0_addProduct) (yX0_addProduct) ∈ lw_gd := lw_in 653 (by decide +kernel) rfl
set_option maxRecDepth 20000 in
theorem wc_X0_addProduct : Cond.code yX0_addProduct cX0_addProduct 10 none ∈ lw_gd := lw_in 654 (by decide +kernel) rfl
set_option maxRecDepth 20000 in
theorem wK_X0_42 : Cond.constant "StateShares$Big" 42 (1000000000) ∈ lw_gd := lw_in 818 (by decide +kernel) rfl
abbrev M_X0_addLongProduct : xM := (yX0_addLongProduct, cX0_addLongProduct, 4, none, { frames := 2, cells := 0, slots := 0, locals := 52 })
abbrev M_X0_addProduct : xM := (yX0_addProduct, cX0_addProduct, 10, none, { frames := 1, cells := 0, slots := 0, locals := 23 })
abbrev M_X0_compareWith : xM := (yX0_compareWith, cX0_compareWith, 3, (some .int), { frames := 1, cells := 0, slots := 0, locals := 21 })
abbrev M_X0_copy : xM := (yX0_copy, cX0_copy, 2, none, { frames := 1, cells := 0, slots := 0, locals := 26 })
abbrev M_X0_divide : xM := (yX0_divide, cX0_divide, 7, none, { frames := 0, cells := 0, slots := 0, locals := 0 })
abbrev M_X0_eighteenDigits : xM := (yX0_eighteenDigits, cX0_eighteenDigits, 2, (some .long), { frames := 1, cells := 0, slots := 0, locals := 21 })
abbrev M_X0_init : xM := (yX0_init, cX0_init, 2, none, { frames := 1, cells := 1, slots := 112, locals := 23 })
abbrev M_X0_isZero : xM := (yX0_isZero, cX0_isZero, 1, (some .boolean), { frames := 0, cells := 0, slots := 0, locals := 0 })
abbrev M_X0_multiply : xM := (yX0_multiply, cX0_multiply, 7, none, { frames := 0, cells := 0, slots := 0, locals := 0 })
abbrev M_X0_nine : xM := (yX0_nine, cX0_nine, 2, (some .int), { frames := 0, cells := 0, slots := 0, locals := 0 })
abbrev M_X0_remainder : xM := (yX0_remainder, cX0_remainder, 5, (some .int), { frames := 0, cells := 0, slots := 0, locals := 0 })
abbrev M_X0_set : xM := (yX0_set, cX0_set, 5, none, { frames := 0, cells := 0, slots := 0, locals := 0 })
abbrev M_X0_subtract : xM := (yX0_subtract, cX0_subtract, 5, none, { frames := 1, cells := 0, slots := 0, locals := 21 })
theorem dX0_init_0 : decode cX0_init 0 = .ok (.aload_n 0, 1) := by decide +kernel
theorem dX0_init_1 : decode cX0_init 1 = .ok (.invokespecial 1, 3) := by decide +kernel
theorem dX0_init_4 : decode cX0_init 4 = .ok (.aload_n 0, 1) := by decide +kernel
theorem dX0_init_5 : decode cX0_init 5 = .ok (.iconst 1, 1) := by decide +kernel
theorem dX0_init_6 : decode cX0_init 6 = .ok (.iload_n 1, 1) := by decide +kernel
theorem dX0_init_7 : decode cX0_init 7 = .ok (.invokestatic 7, 3) := by decide +kernel
theorem dX0_init_10 : decode cX0_init 10 = .ok (.newarray .int, 2) := by decide +kernel
theorem dX0_init_12 : decode cX0_init 12 = .ok (.putfield 13, 3) := by decide +kernel
theorem dX0_init_15 : decode cX0_init 15 = .ok (.return_, 1) := by decide +kernel
theorem dX0_isZero_0 : decode cX0_isZero 0 = .ok (.aload_n 0, 1) := by decide +kernel
theorem dX0_isZero_1 : decode cX0_isZero 1 = .ok (.getfield 19, 3) := by decide +kernel
theorem dX0_isZero_4 : decode cX0_isZero 4 = .ok (.ifCond .ne 7, 3) := by decide +kernel
theorem dX0_isZero_7 : decode cX0_isZero 7 = .ok (.iconst 1, 1) := by decide +kernel
theorem dX0_isZero_8 : decode cX0_isZero 8 = .ok (.goto 4, 3) := by decide +kernel
theorem dX0_isZero_11 : decode cX0_isZero 11 = .ok (.iconst 0, 1) := by decide +kernel
theorem dX0_isZero_12 : decode cX0_isZero 12 = .ok (.ireturn, 1) := by decide +kernel
theorem dX0_set_0 : decode cX0_set 0 = .ok (.lload_n 1, 1) := by decide +kernel
theorem dX0_set_1 : decode cX0_set 1 = .ok (.lstore_n 3, 1) := by decide +kernel
theorem dX0_set_2 : decode cX0_set 2 = .ok (.aload_n 0, 1) := by decide +kernel
theorem dX0_set_3 : decode cX0_set 3 = .ok (.iconst 0, 1) := by decide +kernel
theorem dX0_set_4 : decode cX0_set 4 = .ok (.putfield 19, 3) := by decide +kernel
theorem dX0_set_7 : decode cX0_set 7 = .ok (.lload_n 3, 1) := by decide +kernel
theorem dX0_set_8 : decode cX0_set 8 = .ok (.lconst 0, 1) := by decide +kernel
theorem dX0_set_9 : decode cX0_set 9 = .ok (.lcmp, 1) := by decide +kernel
theorem dX0_set_10 : decode cX0_set 10 = .ok (.ifCond .le 49, 3) := by decide +kernel
theorem dX0_set_13 : decode cX0_set 13 = .ok (.aload_n 0, 1) := by decide +kernel
theorem dX0_set_14 : decode cX0_set 14 = .ok (.getfield 19, 3) := by decide +kernel
theorem dX0_set_17 : decode cX0_set 17 = .ok (.aload_n 0, 1) := by decide +kernel
theorem dX0_set_18 : decode cX0_set 18 = .ok (.getfield 13, 3) := by decide +kernel
theorem dX0_set_21 : decode cX0_set 21 = .ok (.arraylength, 1) := by decide +kernel
theorem dX0_set_22 : decode cX0_set 22 = .ok (.if_icmp .ge 37, 3) := by decide +kernel
theorem dX0_set_25 : decode cX0_set 25 = .ok (.aload_n 0, 1) := by decide +kernel
theorem dX0_set_26 : decode cX0_set 26 = .ok (.getfield 13, 3) := by decide +kernel
theorem dX0_set_29 : decode cX0_set 29 = .ok (.aload_n 0, 1) := by decide +kernel
theorem dX0_set_30 : decode cX0_set 30 = .ok (.getfield 19, 3) := by decide +kernel
theorem dX0_set_33 : decode cX0_set 33 = .ok (.lload_n 3, 1) := by decide +kernel
theorem dX0_set_34 : decode cX0_set 34 = .ok (.ldc2_w 23, 3) := by decide +kernel
theorem dX0_set_37 : decode cX0_set 37 = .ok (.lrem, 1) := by decide +kernel
theorem dX0_set_38 : decode cX0_set 38 = .ok (.l2i, 1) := by decide +kernel
theorem dX0_set_39 : decode cX0_set 39 = .ok (.iastore, 1) := by decide +kernel
theorem dX0_set_40 : decode cX0_set 40 = .ok (.lload_n 3, 1) := by decide +kernel
theorem dX0_set_41 : decode cX0_set 41 = .ok (.ldc2_w 23, 3) := by decide +kernel
theorem dX0_set_44 : decode cX0_set 44 = .ok (.ldiv, 1) := by decide +kernel
theorem dX0_set_45 : decode cX0_set 45 = .ok (.lstore_n 3, 1) := by decide +kernel
theorem dX0_set_46 : decode cX0_set 46 = .ok (.aload_n 0, 1) := by decide +kernel
theorem dX0_set_47 : decode cX0_set 47 = .ok (.dup, 1) := by decide +kernel
theorem dX0_set_48 : decode cX0_set 48 = .ok (.getfield 19, 3) := by decide +kernel
theorem dX0_set_51 : decode cX0_set 51 = .ok (.iconst 1, 1) := by decide +kernel
theorem dX0_set_52 : decode cX0_set 52 = .ok (.iadd, 1) := by decide +kernel
theorem dX0_set_53 : decode cX0_set 53 = .ok (.putfield 19, 3) := by decide +kernel
theorem dX0_set_56 : decode cX0_set 56 = .ok (.goto (-49), 3) := by decide +kernel
theorem dX0_set_59 : decode cX0_set 59 = .ok (.return_, 1) := by decide +kernel
theorem dX0_copy_0 : decode cX0_copy 0 = .ok (.aload_n 0, 1) := by decide +kernel
theorem dX0_copy_1 : decode cX0_copy 1 = .ok (.aload_n 1, 1) := by decide +kernel
theorem dX0_copy_2 : decode cX0_copy 2 = .ok (.getfield 19, 3) := by decide +kernel
theorem dX0_copy_5 : decode cX0_copy 5 = .ok (.aload_n 0, 1) := by decide +kernel
theorem dX0_copy_6 : decode cX0_copy 6 = .ok (.getfield 13, 3) := by decide +kernel
theorem dX0_copy_9 : decode cX0_copy 9 = .ok (.arraylength, 1) := by decide +kernel
theorem dX0_copy_10 : decode cX0_copy 10 = .ok (.invokestatic 25, 3) := by decide +kernel
theorem dX0_copy_13 : decode cX0_copy 13 = .ok (.putfield 19, 3) := by decide +kernel
theorem dX0_copy_16 : decode cX0_copy 16 = .ok (.aload_n 1, 1) := by decide +kernel
theorem dX0_copy_17 : decode cX0_copy 17 = .ok (.getfield 13, 3) := by decide +kernel
theorem dX0_copy_20 : decode cX0_copy 20 = .ok (.iconst 0, 1) := by decide +kernel
theorem dX0_copy_21 : decode cX0_copy 21 = .ok (.aload_n 0, 1) := by decide +kernel
theorem dX0_copy_22 : decode cX0_copy 22 = .ok (.getfield 13, 3) := by decide +kernel
theorem dX0_copy_25 : decode cX0_copy 25 = .ok (.iconst 0, 1) := by decide +kernel
theorem dX0_copy_26 : decode cX0_copy 26 = .ok (.aload_n 0, 1) := by decide +kernel
theorem dX0_copy_27 : decode cX0_copy 27 = .ok (.getfield 19, 3) := by decide +kernel
theorem dX0_copy_30 : decode cX0_copy 30 = .ok (.invokestatic 28, 3) := by decide +kernel
theorem dX0_copy_33 : decode cX0_copy 33 = .ok (.return_, 1) := by decide +kernel
theorem dX0_nine_0 : decode cX0_nine 0 = .ok (.iload_n 1, 1) := by decide +kernel
theorem dX0_nine_1 : decode cX0_nine 1 = .ok (.ifCond .lt 20, 3) := by decide +kernel
theorem dX0_nine_4 : decode cX0_nine 4 = .ok (.iload_n 1, 1) := by decide +kernel
theorem dX0_nine_5 : decode cX0_nine 5 = .ok (.aload_n 0, 1) := by decide +kernel
theorem dX0_nine_6 : decode cX0_nine 6 = .ok (.getfield 19, 3) := by decide +kernel
theorem dX0_nine_9 : decode cX0_nine 9 = .ok (.if_icmp .ge 12, 3) := by decide +kernel
theorem dX0_nine_12 : decode cX0_nine 12 = .ok (.aload_n 0, 1) := by decide +kernel
theorem dX0_nine_13 : decode cX0_nine 13 = .ok (.getfield 13, 3) := by decide +kernel
theorem dX0_nine_16 : decode cX0_nine 16 = .ok (.iload_n 1, 1) := by decide +kernel
theorem dX0_nine_17 : decode cX0_nine 17 = .ok (.iaload, 1) := by decide +kernel
theorem dX0_nine_18 : decode cX0_nine 18 = .ok (.goto 4, 3) := by decide +kernel
theorem dX0_nine_21 : decode cX0_nine 21 = .ok (.iconst 0, 1) := by decide +kernel
theorem dX0_nine_22 : decode cX0_nine 22 = .ok (.ireturn, 1) := by decide +kernel
theorem dX0_eighteenDigits_0 : decode cX0_eighteenDigits 0 = .ok (.iload_n 1, 1) := by decide +kernel
theorem dX0_eighteenDigits_1 : decode cX0_eighteenDigits 1 = .ok (.ifCond .lt 12, 3) := by decide +kernel
theorem dX0_eighteenDigits_4 : decode cX0_eighteenDigits 4 = .ok (.iload_n 1, 1) := by decide +kernel
theorem dX0_eighteenDigits_5 : decode cX0_eighteenDigits 5 = .ok (.aload_n 0, 1) := by decide +kernel
theorem dX0_eighteenDigits_6 : decode cX0_eighteenDigits 6 = .ok (.getfield 13, 3) := by decide +kernel
theorem dX0_eighteenDigits_9 : decode cX0_eighteenDigits 9 = .ok (.arraylength, 1) := by decide +kernel
theorem dX0_eighteenDigits_10 : decode cX0_eighteenDigits 10 = .ok (.if_icmp .lt 7, 3) := by decide +kernel
theorem dX0_eighteenDigits_13 : decode cX0_eighteenDigits 13 = .ok (.lconst 0, 1) := by decide +kernel
theorem dX0_eighteenDigits_14 : decode cX0_eighteenDigits 14 = .ok (.goto 26, 3) := by decide +kernel
theorem dX0_eighteenDigits_17 : decode cX0_eighteenDigits 17 = .ok (.aload_n 0, 1) := by decide +kernel
theorem dX0_eighteenDigits_18 : decode cX0_eighteenDigits 18 = .ok (.iconst 2, 1) := by decide +kernel
theorem dX0_eighteenDigits_19 : decode cX0_eighteenDigits 19 = .ok (.iload_n 1, 1) := by decide +kernel
theorem dX0_eighteenDigits_20 : decode cX0_eighteenDigits 20 = .ok (.imul, 1) := by decide +kernel
theorem dX0_eighteenDigits_21 : decode cX0_eighteenDigits 21 = .ok (.invokevirtual 34, 3) := by decide +kernel
theorem dX0_eighteenDigits_24 : decode cX0_eighteenDigits 24 = .ok (.i2l, 1) := by decide +kernel
theorem dX0_eighteenDigits_25 : decode cX0_eighteenDigits 25 = .ok (.ldc2_w 23, 3) := by decide +kernel
theorem dX0_eighteenDigits_28 : decode cX0_eighteenDigits 28 = .ok (.aload_n 0, 1) := by decide +kernel
theorem dX0_eighteenDigits_29 : decode cX0_eighteenDigits 29 = .ok (.iconst 2, 1) := by decide +kernel
theorem dX0_eighteenDigits_30 : decode cX0_eighteenDigits 30 = .ok (.iload_n 1, 1) := by decide +kernel
theorem dX0_eighteenDigits_31 : decode cX0_eighteenDigits 31 = .ok (.imul, 1) := by decide +kernel
theorem dX0_eighteenDigits_32 : decode cX0_eighteenDigits 32 = .ok (.iconst 1, 1) := by decide +kernel
theorem dX0_eighteenDigits_33 : decode cX0_eighteenDigits 33 = .ok (.iadd, 1) := by decide +kernel
theorem dX0_eighteenDigits_34 : decode cX0_eighteenDigits 34 = .ok (.invokevirtual 34, 3) := by decide +kernel
theorem dX0_eighteenDigits_37 : decode cX0_eighteenDigits 37 = .ok (.i2l, 1) := by decide +kernel
theorem dX0_eighteenDigits_38 : decode cX0_eighteenDigits 38 = .ok (.lmul, 1) := by decide +kernel
theorem dX0_eighteenDigits_39 : decode cX0_eighteenDigits 39 = .ok (.ladd, 1) := by decide +kernel
theorem dX0_eighteenDigits_40 : decode cX0_eighteenDigits 40 = .ok (.lreturn, 1) := by decide +kernel
theorem dX0_multiply_0 : decode cX0_multiply 0 = .ok (.iload_n 1, 1) := by decide +kernel
theorem dX0_multiply_1 : decode cX0_multiply 1 = .ok (.ifCond .ne 9, 3) := by decide +kernel
theorem dX0_multiply_4 : decode cX0_multiply 4 = .ok (.aload_n 0, 1) := by decide +kernel
theorem dX0_multiply_5 : decode cX0_multiply 5 = .ok (.iconst 0, 1) := by decide +kernel
theorem dX0_multiply_6 : decode cX0_multiply 6 = .ok (.putfield 19, 3) := by decide +kernel
theorem dX0_multiply_9 : decode cX0_multiply 9 = .ok (.return_, 1) := by decide +kernel
theorem dX0_multiply_10 : decode cX0_multiply 10 = .ok (.iload_n 1, 1) := by decide +kernel
theorem dX0_multiply_11 : decode cX0_multiply 11 = .ok (.iconst 1, 1) := by decide +kernel
theorem dX0_multiply_12 : decode cX0_multiply 12 = .ok (.if_icmp .ne 4, 3) := by decide +kernel
theorem dX0_multiply_15 : decode cX0_multiply 15 = .ok (.return_, 1) := by decide +kernel
theorem dX0_multiply_16 : decode cX0_multiply 16 = .ok (.lconst 0, 1) := by decide +kernel
theorem dX0_multiply_17 : decode cX0_multiply 17 = .ok (.lstore_n 2, 1) := by decide +kernel
theorem dX0_multiply_18 : decode cX0_multiply 18 = .ok (.iconst 0, 1) := by decide +kernel
theorem dX0_multiply_19 : decode cX0_multiply 19 = .ok (.istore 4, 2) := by decide +kernel
theorem dX0_multiply_21 : decode cX0_multiply 21 = .ok (.iload 4, 2) := by decide +kernel
theorem dX0_multiply_23 : decode cX0_multiply 23 = .ok (.aload_n 0, 1) := by decide +kernel
theorem dX0_multiply_24 : decode cX0_multiply 24 = .ok (.getfield 19, 3) := by decide +kernel
theorem dX0_multiply_27 : decode cX0_multiply 27 = .ok (.if_icmp .ge 47, 3) := by decide +kernel
theorem dX0_multiply_30 : decode cX0_multiply 30 = .ok (.aload_n 0, 1) := by decide +kernel
theorem dX0_multiply_31 : decode cX0_multiply 31 = .ok (.getfield 13, 3) := by decide +kernel
theorem dX0_multiply_34 : decode cX0_multiply 34 = .ok (.iload 4, 2) := by decide +kernel
theorem dX0_multiply_36 : decode cX0_multiply 36 = .ok (.iaload, 1) := by decide +kernel
theorem dX0_multiply_37 : decode cX0_multiply 37 = .ok (.i2l, 1) := by decide +kernel
theorem dX0_multiply_38 : decode cX0_multiply 38 = .ok (.iload_n 1, 1) := by decide +kernel
theorem dX0_multiply_39 : decode cX0_multiply 39 = .ok (.i2l, 1) := by decide +kernel
theorem dX0_multiply_40 : decode cX0_multiply 40 = .ok (.lmul, 1) := by decide +kernel
theorem dX0_multiply_41 : decode cX0_multiply 41 = .ok (.lload_n 2, 1) := by decide +kernel
theorem dX0_multiply_42 : decode cX0_multiply 42 = .ok (.ladd, 1) := by decide +kernel
theorem dX0_multiply_43 : decode cX0_multiply 43 = .ok (.lstore 5, 2) := by decide +kernel
theorem dX0_multiply_45 : decode cX0_multiply 45 = .ok (.lload 5, 2) := by decide +kernel
theorem dX0_multiply_47 : decode cX0_multiply 47 = .ok (.ldc2_w 23, 3) := by decide +kernel
theorem dX0_multiply_50 : decode cX0_multiply 50 = .ok (.ldiv, 1) := by decide +kernel
theorem dX0_multiply_51 : decode cX0_multiply 51 = .ok (.lstore_n 2, 1) := by decide +kernel
theorem dX0_multiply_52 : decode cX0_multiply 52 = .ok (.aload_n 0, 1) := by decide +kernel
theorem dX0_multiply_53 : decode cX0_multiply 53 = .ok (.getfield 13, 3) := by decide +kernel
theorem dX0_multiply_56 : decode cX0_multiply 56 = .ok (.iload 4, 2) := by decide +kernel
theorem dX0_multiply_58 : decode cX0_multiply 58 = .ok (.lload 5, 2) := by decide +kernel
theorem dX0_multiply_60 : decode cX0_multiply 60 = .ok (.lload_n 2, 1) := by decide +kernel
theorem dX0_multiply_61 : decode cX0_multiply 61 = .ok (.ldc2_w 23, 3) := by decide +kernel
theorem dX0_multiply_64 : decode cX0_multiply 64 = .ok (.lmul, 1) := by decide +kernel
theorem dX0_multiply_65 : decode cX0_multiply 65 = .ok (.lsub, 1) := by decide +kernel
theorem dX0_multiply_66 : decode cX0_multiply 66 = .ok (.l2i, 1) := by decide +kernel
theorem dX0_multiply_67 : decode cX0_multiply 67 = .ok (.iastore, 1) := by decide +kernel
theorem dX0_multiply_68 : decode cX0_multiply 68 = .ok (.iinc 4 1, 3) := by decide +kernel
theorem dX0_multiply_71 : decode cX0_multiply 71 = .ok (.goto (-50), 3) := by decide +kernel
theorem dX0_multiply_74 : decode cX0_multiply 74 = .ok (.lload_n 2, 1) := by decide +kernel
theorem dX0_multiply_75 : decode cX0_multiply 75 = .ok (.lconst 0, 1) := by decide +kernel
theorem dX0_multiply_76 : decode cX0_multiply 76 = .ok (.lcmp, 1) := by decide +kernel
theorem dX0_multiply_77 : decode cX0_multiply 77 = .ok (.ifCond .le 36, 3) := by decide +kernel
theorem dX0_multiply_80 : decode cX0_multiply 80 = .ok (.aload_n 0, 1) := by decide +kernel
theorem dX0_multiply_81 : decode cX0_multiply 81 = .ok (.getfield 19, 3) := by decide +kernel
theorem dX0_multiply_84 : decode cX0_multiply 84 = .ok (.aload_n 0, 1) := by decide +kernel
theorem dX0_multiply_85 : decode cX0_multiply 85 = .ok (.getfield 13, 3) := by decide +kernel
theorem dX0_multiply_88 : decode cX0_multiply 88 = .ok (.arraylength, 1) := by decide +kernel
theorem dX0_multiply_89 : decode cX0_multiply 89 = .ok (.if_icmp .ge 24, 3) := by decide +kernel
theorem dX0_multiply_92 : decode cX0_multiply 92 = .ok (.aload_n 0, 1) := by decide +kernel
theorem dX0_multiply_93 : decode cX0_multiply 93 = .ok (.getfield 13, 3) := by decide +kernel
theorem dX0_multiply_96 : decode cX0_multiply 96 = .ok (.aload_n 0, 1) := by decide +kernel
theorem dX0_multiply_97 : decode cX0_multiply 97 = .ok (.getfield 19, 3) := by decide +kernel
theorem dX0_multiply_100 : decode cX0_multiply 100 = .ok (.lload_n 2, 1) := by decide +kernel
theorem dX0_multiply_101 : decode cX0_multiply 101 = .ok (.l2i, 1) := by decide +kernel
theorem dX0_multiply_102 : decode cX0_multiply 102 = .ok (.iastore, 1) := by decide +kernel
theorem dX0_multiply_103 : decode cX0_multiply 103 = .ok (.aload_n 0, 1) := by decide +kernel
theorem dX0_multiply_104 : decode cX0_multiply 104 = .ok (.dup, 1) := by decide +kernel
theorem dX0_multiply_105 : decode cX0_multiply 105 = .ok (.getfield 19, 3) := by decide +kernel
theorem dX0_multiply_108 : decode cX0_multiply 108 = .ok (.iconst 1, 1) := by decide +kernel
theorem dX0_multiply_109 : decode cX0_multiply 109 = .ok (.iadd, 1) := by decide +kernel
theorem dX0_multiply_110 : decode cX0_multiply 110 = .ok (.putfield 19, 3) := by decide +kernel
theorem dX0_multiply_113 : decode cX0_multiply 113 = .ok (.return_, 1) := by decide +kernel
theorem dX0_addProduct_0 : decode cX0_addProduct 0 = .ok (.iload_n 2, 1) := by decide +kernel
theorem dX0_addProduct_1 : decode cX0_addProduct 1 = .ok (.ifCond .eq 14, 3) := by decide +kernel
theorem dX0_addProduct_4 : decode cX0_addProduct 4 = .ok (.aload_n 1, 1) := by decide +kernel
theorem dX0_addProduct_5 : decode cX0_addProduct 5 = .ok (.getfield 19, 3) := by decide +kernel
theorem dX0_addProduct_8 : decode cX0_addProduct 8 = .ok (.ifCond .eq 7, 3) := by decide +kernel
theorem dX0_addProduct_11 : decode cX0_addProduct 11 = .ok (.iload_n 3, 1) := by decide +kernel
theorem dX0_addProduct_12 : decode cX0_addProduct 12 = .ok (.ifCond .ge 4, 3) := by decide +kernel
theorem dX0_addProduct_15 : decode cX0_addProduct 15 = .ok (.return_, 1) := by decide +kernel
theorem dX0_addProduct_16 : decode cX0_addProduct 16 = .ok (.aload_n 0, 1) := by decide +kernel
theorem dX0_addProduct_17 : decode cX0_addProduct 17 = .ok (.getfield 19, 3) := by decide +kernel
theorem dX0_addProduct_20 : decode cX0_addProduct 20 = .ok (.istore 4, 2) := by decide +kernel
theorem dX0_addProduct_22 : decode cX0_addProduct 22 = .ok (.iload 4, 2) := by decide +kernel
theorem dX0_addProduct_24 : decode cX0_addProduct 24 = .ok (.iload_n 3, 1) := by decide +kernel
theorem dX0_addProduct_25 : decode cX0_addProduct 25 = .ok (.if_icmp .ge 27, 3) := by decide +kernel
theorem dX0_addProduct_28 : decode cX0_addProduct 28 = .ok (.iload 4, 2) := by decide +kernel
theorem dX0_addProduct_30 : decode cX0_addProduct 30 = .ok (.aload_n 0, 1) := by decide +kernel
theorem dX0_addProduct_31 : decode cX0_addProduct 31 = .ok (.getfield 13, 3) := by decide +kernel
theorem dX0_addProduct_34 : decode cX0_addProduct 34 = .ok (.arraylength, 1) := by decide +kernel
theorem dX0_addProduct_35 : decode cX0_addProduct 35 = .ok (.if_icmp .ge 17, 3) := by decide +kernel
theorem dX0_addProduct_38 : decode cX0_addProduct 38 = .ok (.aload_n 0, 1) := by decide +kernel
theorem dX0_addProduct_39 : decode cX0_addProduct 39 = .ok (.getfield 13, 3) := by decide +kernel
theorem dX0_addProduct_42 : decode cX0_addProduct 42 = .ok (.iload 4, 2) := by decide +kernel
theorem dX0_addProduct_44 : decode cX0_addProduct 44 = .ok (.iconst 0, 1) := by decide +kernel
theorem dX0_addProduct_45 : decode cX0_addProduct 45 = .ok (.iastore, 1) := by decide +kernel
theorem dX0_addProduct_46 : decode cX0_addProduct 46 = .ok (.iinc 4 1, 3) := by decide +kernel
theorem dX0_addProduct_49 : decode cX0_addProduct 49 = .ok (.goto (-27), 3) := by decide +kernel
theorem dX0_addProduct_52 : decode cX0_addProduct 52 = .ok (.aload_n 1, 1) := by decide +kernel
theorem dX0_addProduct_53 : decode cX0_addProduct 53 = .ok (.getfield 19, 3) := by decide +kernel
theorem dX0_addProduct_56 : decode cX0_addProduct 56 = .ok (.iload_n 3, 1) := by decide +kernel
theorem dX0_addProduct_57 : decode cX0_addProduct 57 = .ok (.iadd, 1) := by decide +kernel
theorem dX0_addProduct_58 : decode cX0_addProduct 58 = .ok (.istore 4, 2) := by decide +kernel
theorem dX0_addProduct_60 : decode cX0_addProduct 60 = .ok (.lconst 0, 1) := by decide +kernel
theorem dX0_addProduct_61 : decode cX0_addProduct 61 = .ok (.lstore 5, 2) := by decide +kernel
theorem dX0_addProduct_63 : decode cX0_addProduct 63 = .ok (.iload_n 3, 1) := by decide +kernel
theorem dX0_addProduct_64 : decode cX0_addProduct 64 = .ok (.istore 7, 2) := by decide +kernel
theorem dX0_addProduct_66 : decode cX0_addProduct 66 = .ok (.iload 7, 2) := by decide +kernel
theorem dX0_addProduct_68 : decode cX0_addProduct 68 = .ok (.aload_n 0, 1) := by decide +kernel
theorem dX0_addProduct_69 : decode cX0_addProduct 69 = .ok (.getfield 13, 3) := by decide +kernel
theorem dX0_addProduct_72 : decode cX0_addProduct 72 = .ok (.arraylength, 1) := by decide +kernel
theorem dX0_addProduct_73 : decode cX0_addProduct 73 = .ok (.if_icmp .ge 99, 3) := by decide +kernel
theorem dX0_addProduct_76 : decode cX0_addProduct 76 = .ok (.iload 7, 2) := by decide +kernel
theorem dX0_addProduct_78 : decode cX0_addProduct 78 = .ok (.iload 4, 2) := by decide +kernel
theorem dX0_addProduct_80 : decode cX0_addProduct 80 = .ok (.if_icmp .lt 10, 3) := by decide +kernel
theorem dX0_addProduct_83 : decode cX0_addProduct 83 = .ok (.lload 5, 2) := by decide +kernel
theorem dX0_addProduct_85 : decode cX0_addProduct 85 = .ok (.lconst 0, 1) := by decide +kernel
theorem dX0_addProduct_86 : decode cX0_addProduct 86 = .ok (.lcmp, 1) := by decide +kernel
theorem dX0_addProduct_87 : decode cX0_addProduct 87 = .ok (.ifCond .le 85, 3) := by decide +kernel
theorem dX0_addProduct_90 : decode cX0_addProduct 90 = .ok (.lload 5, 2) := by decide +kernel
theorem dX0_addProduct_92 : decode cX0_addProduct 92 = .ok (.iload 7, 2) := by decide +kernel
theorem dX0_addProduct_94 : decode cX0_addProduct 94 = .ok (.aload_n 0, 1) := by decide +kernel
theorem dX0_addProduct_95 : decode cX0_addProduct 95 = .ok (.getfield 19, 3) := by decide +kernel
theorem dX0_addProduct_98 : decode cX0_addProduct 98 = .ok (.if_icmp .ge 13, 3) := by decide +kernel
theorem dX0_addProduct_101 : decode cX0_addProduct 101 = .ok (.aload_n 0, 1) := by decide +kernel
theorem dX0_addProduct_102 : decode cX0_addProduct 102 = .ok (.getfield 13, 3) := by decide +kernel
theorem dX0_addProduct_105 : decode cX0_addProduct 105 = .ok (.iload 7, 2) := by decide +kernel
theorem dX0_addProduct_107 : decode cX0_addProduct 107 = .ok (.iaload, 1) := by decide +kernel
theorem dX0_addProduct_108 : decode cX0_addProduct 108 = .ok (.goto 4, 3) := by decide +kernel
theorem dX0_addProduct_111 : decode cX0_addProduct 111 = .ok (.iconst 0, 1) := by decide +kernel
theorem dX0_addProduct_112 : decode cX0_addProduct 112 = .ok (.i2l, 1) := by decide +kernel
theorem dX0_addProduct_113 : decode cX0_addProduct 113 = .ok (.ladd, 1) := by decide +kernel
theorem dX0_addProduct_114 : decode cX0_addProduct 114 = .ok (.lstore 8, 2) := by decide +kernel
theorem dX0_addProduct_116 : decode cX0_addProduct 116 = .ok (.iload 7, 2) := by decide +kernel
theorem dX0_addProduct_118 : decode cX0_addProduct 118 = .ok (.iload 4, 2) := by decide +kernel
theorem dX0_addProduct_120 : decode cX0_addProduct 120 = .ok (.if_icmp .ge 21, 3) := by decide +kernel
theorem dX0_addProduct_123 : decode cX0_addProduct 123 = .ok (.lload 8, 2) := by decide +kernel
theorem dX0_addProduct_125 : decode cX0_addProduct 125 = .ok (.aload_n 1, 1) := by decide +kernel
theorem dX0_addProduct_126 : decode cX0_addProduct 126 = .ok (.getfield 13, 3) := by decide +kernel
theorem dX0_addProduct_129 : decode cX0_addProduct 129 = .ok (.iload 7, 2) := by decide +kernel
theorem dX0_addProduct_131 : decode cX0_addProduct 131 = .ok (.iload_n 3, 1) := by decide +kernel
theorem dX0_addProduct_132 : decode cX0_addProduct 132 = .ok (.isub, 1) := by decide +kernel
theorem dX0_addProduct_133 : decode cX0_addProduct 133 = .ok (.iaload, 1) := by decide +kernel
theorem dX0_addProduct_134 : decode cX0_addProduct 134 = .ok (.i2l, 1) := by decide +kernel
theorem dX0_addProduct_135 : decode cX0_addProduct 135 = .ok (.iload_n 2, 1) := by decide +kernel
theorem dX0_addProduct_136 : decode cX0_addProduct 136 = .ok (.i2l, 1) := by decide +kernel
theorem dX0_addProduct_137 : decode cX0_addProduct 137 = .ok (.lmul, 1) := by decide +kernel
theorem dX0_addProduct_138 : decode cX0_addProduct 138 = .ok (.ladd, 1) := by decide +kernel
theorem dX0_addProduct_139 : decode cX0_addProduct 139 = .ok (.lstore 8, 2) := by decide +kernel
theorem dX0_addProduct_141 : decode cX0_addProduct 141 = .ok (.lload 8, 2) := by decide +kernel
theorem dX0_addProduct_143 : decode cX0_addProduct 143 = .ok (.ldc2_w 23, 3) := by decide +kernel
theorem dX0_addProduct_146 : decode cX0_addProduct 146 = .ok (.ldiv, 1) := by decide +kernel
theorem dX0_addProduct_147 : decode cX0_addProduct 147 = .ok (.lstore 5, 2) := by decide +kernel
theorem dX0_addProduct_149 : decode cX0_addProduct 149 = .ok (.aload_n 0, 1) := by decide +kernel
theorem dX0_addProduct_150 : decode cX0_addProduct 150 = .ok (.getfield 13, 3) := by decide +kernel
theorem dX0_addProduct_153 : decode cX0_addProduct 153 = .ok (.iload 7, 2) := by decide +kernel
theorem dX0_addProduct_155 : decode cX0_addProduct 155 = .ok (.lload 8, 2) := by decide +kernel
theorem dX0_addProduct_157 : decode cX0_addProduct 157 = .ok (.lload 5, 2) := by decide +kernel
theorem dX0_addProduct_159 : decode cX0_addProduct 159 = .ok (.ldc2_w 23, 3) := by decide +kernel
theorem dX0_addProduct_162 : decode cX0_addProduct 162 = .ok (.lmul, 1) := by decide +kernel
theorem dX0_addProduct_163 : decode cX0_addProduct 163 = .ok (.lsub, 1) := by decide +kernel
theorem dX0_addProduct_164 : decode cX0_addProduct 164 = .ok (.l2i, 1) := by decide +kernel
theorem dX0_addProduct_165 : decode cX0_addProduct 165 = .ok (.iastore, 1) := by decide +kernel
theorem dX0_addProduct_166 : decode cX0_addProduct 166 = .ok (.iinc 7 1, 3) := by decide +kernel
theorem dX0_addProduct_169 : decode cX0_addProduct 169 = .ok (.goto (-103), 3) := by decide +kernel
theorem dX0_addProduct_172 : decode cX0_addProduct 172 = .ok (.aload_n 0, 1) := by decide +kernel
theorem dX0_addProduct_173 : decode cX0_addProduct 173 = .ok (.aload_n 0, 1) := by decide +kernel
theorem dX0_addProduct_174 : decode cX0_addProduct 174 = .ok (.getfield 19, 3) := by decide +kernel
theorem dX0_addProduct_177 : decode cX0_addProduct 177 = .ok (.iload 7, 2) := by decide +kernel
theorem dX0_addProduct_179 : decode cX0_addProduct 179 = .ok (.invokestatic 7, 3) := by decide +kernel
theorem dX0_addProduct_182 : decode cX0_addProduct 182 = .ok (.putfield 19, 3) := by decide +kernel
theorem dX0_addProduct_185 : decode cX0_addProduct 185 = .ok (.return_, 1) := by decide +kernel
theorem dX0_addLongProduct_0 : decode cX0_addLongProduct 0 = .ok (.aload_n 0, 1) := by decide +kernel
theorem dX0_addLongProduct_1 : decode cX0_addLongProduct 1 = .ok (.aload_n 1, 1) := by decide +kernel
theorem dX0_addLongProduct_2 : decode cX0_addLongProduct 2 = .ok (.lload_n 2, 1) := by decide +kernel
theorem dX0_addLongProduct_3 : decode cX0_addLongProduct 3 = .ok (.ldc2_w 23, 3) := by decide +kernel
theorem dX0_addLongProduct_6 : decode cX0_addLongProduct 6 = .ok (.lrem, 1) := by decide +kernel
theorem dX0_addLongProduct_7 : decode cX0_addLongProduct 7 = .ok (.l2i, 1) := by decide +kernel
theorem dX0_addLongProduct_8 : decode cX0_addLongProduct 8 = .ok (.iconst 0, 1) := by decide +kernel
theorem dX0_addLongProduct_9 : decode cX0_addLongProduct 9 = .ok (.invokevirtual 38, 3) := by decide +kernel
theorem dX0_addLongProduct_12 : decode cX0_addLongProduct 12 = .ok (.aload_n 0, 1) := by decide +kernel
theorem dX0_addLongProduct_13 : decode cX0_addLongProduct 13 = .ok (.aload_n 1, 1) := by decide +kernel
theorem dX0_addLongProduct_14 : decode cX0_addLongProduct 14 = .ok (.lload_n 2, 1) := by decide +kernel
theorem dX0_addLongProduct_15 : decode cX0_addLongProduct 15 = .ok (.ldc2_w 23, 3) := by decide +kernel
theorem dX0_addLongProduct_18 : decode cX0_addLongProduct 18 = .ok (.ldiv, 1) := by decide +kernel
theorem dX0_addLongProduct_19 : decode cX0_addLongProduct 19 = .ok (.l2i, 1) := by decide +kernel
theorem dX0_addLongProduct_20 : decode cX0_addLongProduct 20 = .ok (.iconst 1, 1) := by decide +kernel
theorem dX0_addLongProduct_21 : decode cX0_addLongProduct 21 = .ok (.invokevirtual 38, 3) := by decide +kernel
theorem dX0_addLongProduct_24 : decode cX0_addLongProduct 24 = .ok (.return_, 1) := by decide +kernel
theorem dX0_subtract_0 : decode cX0_subtract 0 = .ok (.iconst 0, 1) := by decide +kernel
theorem dX0_subtract_1 : decode cX0_subtract 1 = .ok (.istore_n 2, 1) := by decide +kernel
theorem dX0_subtract_2 : decode cX0_subtract 2 = .ok (.iconst 0, 1) := by decide +kernel
theorem dX0_subtract_3 : decode cX0_subtract 3 = .ok (.istore_n 3, 1) := by decide +kernel
theorem dX0_subtract_4 : decode cX0_subtract 4 = .ok (.iload_n 3, 1) := by decide +kernel
theorem dX0_subtract_5 : decode cX0_subtract 5 = .ok (.aload_n 0, 1) := by decide +kernel
theorem dX0_subtract_6 : decode cX0_subtract 6 = .ok (.getfield 19, 3) := by decide +kernel
theorem dX0_subtract_9 : decode cX0_subtract 9 = .ok (.if_icmp .ge 49, 3) := by decide +kernel
theorem dX0_subtract_12 : decode cX0_subtract 12 = .ok (.aload_n 0, 1) := by decide +kernel
theorem dX0_subtract_13 : decode cX0_subtract 13 = .ok (.getfield 13, 3) := by decide +kernel
theorem dX0_subtract_16 : decode cX0_subtract 16 = .ok (.iload_n 3, 1) := by decide +kernel
theorem dX0_subtract_17 : decode cX0_subtract 17 = .ok (.iaload, 1) := by decide +kernel
theorem dX0_subtract_18 : decode cX0_subtract 18 = .ok (.aload_n 1, 1) := by decide +kernel
theorem dX0_subtract_19 : decode cX0_subtract 19 = .ok (.iload_n 3, 1) := by decide +kernel
theorem dX0_subtract_20 : decode cX0_subtract 20 = .ok (.invokevirtual 34, 3) := by decide +kernel
theorem dX0_subtract_23 : decode cX0_subtract 23 = .ok (.isub, 1) := by decide +kernel
theorem dX0_subtract_24 : decode cX0_subtract 24 = .ok (.iload_n 2, 1) := by decide +kernel
theorem dX0_subtract_25 : decode cX0_subtract 25 = .ok (.isub, 1) := by decide +kernel
theorem dX0_subtract_26 : decode cX0_subtract 26 = .ok (.istore 4, 2) := by decide +kernel
theorem dX0_subtract_28 : decode cX0_subtract 28 = .ok (.iload 4, 2) := by decide +kernel
theorem dX0_subtract_30 : decode cX0_subtract 30 = .ok (.ifCond .ge 7, 3) := by decide +kernel
theorem dX0_subtract_33 : decode cX0_subtract 33 = .ok (.iconst 1, 1) := by decide +kernel
theorem dX0_subtract_34 : decode cX0_subtract 34 = .ok (.goto 4, 3) := by decide +kernel
theorem dX0_subtract_37 : decode cX0_subtract 37 = .ok (.iconst 0, 1) := by decide +kernel
theorem dX0_subtract_38 : decode cX0_subtract 38 = .ok (.istore_n 2, 1) := by decide +kernel
theorem dX0_subtract_39 : decode cX0_subtract 39 = .ok (.aload_n 0, 1) := by decide +kernel
theorem dX0_subtract_40 : decode cX0_subtract 40 = .ok (.getfield 13, 3) := by decide +kernel
theorem dX0_subtract_43 : decode cX0_subtract 43 = .ok (.iload_n 3, 1) := by decide +kernel
theorem dX0_subtract_44 : decode cX0_subtract 44 = .ok (.iload 4, 2) := by decide +kernel
theorem dX0_subtract_46 : decode cX0_subtract 46 = .ok (.iload_n 2, 1) := by decide +kernel
theorem dX0_subtract_47 : decode cX0_subtract 47 = .ok (.ldc 42, 2) := by decide +kernel
theorem dX0_subtract_49 : decode cX0_subtract 49 = .ok (.imul, 1) := by decide +kernel
theorem dX0_subtract_50 : decode cX0_subtract 50 = .ok (.iadd, 1) := by decide +kernel
theorem dX0_subtract_51 : decode cX0_subtract 51 = .ok (.iastore, 1) := by decide +kernel
theorem dX0_subtract_52 : decode cX0_subtract 52 = .ok (.iinc 3 1, 3) := by decide +kernel
theorem dX0_subtract_55 : decode cX0_subtract 55 = .ok (.goto (-51), 3) := by decide +kernel
theorem dX0_subtract_58 : decode cX0_subtract 58 = .ok (.aload_n 0, 1) := by decide +kernel
theorem dX0_subtract_59 : decode cX0_subtract 59 = .ok (.getfield 19, 3) := by decide +kernel
theorem dX0_subtract_62 : decode cX0_subtract 62 = .ok (.ifCond .le 30, 3) := by decide +kernel
theorem dX0_subtract_65 : decode cX0_subtract 65 = .ok (.aload_n 0, 1) := by decide +kernel
theorem dX0_subtract_66 : decode cX0_subtract 66 = .ok (.getfield 13, 3) := by decide +kernel
theorem dX0_subtract_69 : decode cX0_subtract 69 = .ok (.aload_n 0, 1) := by decide +kernel
theorem dX0_subtract_70 : decode cX0_subtract 70 = .ok (.getfield 19, 3) := by decide +kernel
theorem dX0_subtract_73 : decode cX0_subtract 73 = .ok (.iconst 1, 1) := by decide +kernel
theorem dX0_subtract_74 : decode cX0_subtract 74 = .ok (.isub, 1) := by decide +kernel
theorem dX0_subtract_75 : decode cX0_subtract 75 = .ok (.iaload, 1) := by decide +kernel
theorem dX0_subtract_76 : decode cX0_subtract 76 = .ok (.ifCond .ne 16, 3) := by decide +kernel
theorem dX0_subtract_79 : decode cX0_subtract 79 = .ok (.aload_n 0, 1) := by decide +kernel
theorem dX0_subtract_80 : decode cX0_subtract 80 = .ok (.dup, 1) := by decide +kernel
theorem dX0_subtract_81 : decode cX0_subtract 81 = .ok (.getfield 19, 3) := by decide +kernel
theorem dX0_subtract_84 : decode cX0_subtract 84 = .ok (.iconst 1, 1) := by decide +kernel
theorem dX0_subtract_85 : decode cX0_subtract 85 = .ok (.isub, 1) := by decide +kernel
theorem dX0_subtract_86 : decode cX0_subtract 86 = .ok (.putfield 19, 3) := by decide +kernel
theorem dX0_subtract_89 : decode cX0_subtract 89 = .ok (.goto (-31), 3) := by decide +kernel
theorem dX0_subtract_92 : decode cX0_subtract 92 = .ok (.return_, 1) := by decide +kernel
theorem dX0_remainder_0 : decode cX0_remainder 0 = .ok (.lconst 0, 1) := by decide +kernel
theorem dX0_remainder_1 : decode cX0_remainder 1 = .ok (.lstore_n 2, 1) := by decide +kernel
theorem dX0_remainder_2 : decode cX0_remainder 2 = .ok (.aload_n 0, 1) := by decide +kernel
theorem dX0_remainder_3 : decode cX0_remainder 3 = .ok (.getfield 19, 3) := by decide +kernel
theorem dX0_remainder_6 : decode cX0_remainder 6 = .ok (.iconst 1, 1) := by decide +kernel
theorem dX0_remainder_7 : decode cX0_remainder 7 = .ok (.isub, 1) := by decide +kernel
theorem dX0_remainder_8 : decode cX0_remainder 8 = .ok (.istore 4, 2) := by decide +kernel
theorem dX0_remainder_10 : decode cX0_remainder 10 = .ok (.iload 4, 2) := by decide +kernel
theorem dX0_remainder_12 : decode cX0_remainder 12 = .ok (.ifCond .lt 31, 3) := by decide +kernel
theorem dX0_remainder_15 : decode cX0_remainder 15 = .ok (.iload_n 1, 1) := by decide +kernel
theorem dX0_remainder_16 : decode cX0_remainder 16 = .ok (.ifCond .le 27, 3) := by decide +kernel
theorem dX0_remainder_19 : decode cX0_remainder 19 = .ok (.lload_n 2, 1) := by decide +kernel
theorem dX0_remainder_20 : decode cX0_remainder 20 = .ok (.ldc2_w 23, 3) := by decide +kernel
theorem dX0_remainder_23 : decode cX0_remainder 23 = .ok (.lmul, 1) := by decide +kernel
theorem dX0_remainder_24 : decode cX0_remainder 24 = .ok (.aload_n 0, 1) := by decide +kernel
theorem dX0_remainder_25 : decode cX0_remainder 25 = .ok (.getfield 13, 3) := by decide +kernel
theorem dX0_remainder_28 : decode cX0_remainder 28 = .ok (.iload 4, 2) := by decide +kernel
theorem dX0_remainder_30 : decode cX0_remainder 30 = .ok (.iaload, 1) := by decide +kernel
theorem dX0_remainder_31 : decode cX0_remainder 31 = .ok (.i2l, 1) := by decide +kernel
theorem dX0_remainder_32 : decode cX0_remainder 32 = .ok (.ladd, 1) := by decide +kernel
theorem dX0_remainder_33 : decode cX0_remainder 33 = .ok (.iload_n 1, 1) := by decide +kernel
theorem dX0_remainder_34 : decode cX0_remainder 34 = .ok (.i2l, 1) := by decide +kernel
theorem dX0_remainder_35 : decode cX0_remainder 35 = .ok (.lrem, 1) := by decide +kernel
theorem dX0_remainder_36 : decode cX0_remainder 36 = .ok (.lstore_n 2, 1) := by decide +kernel
theorem dX0_remainder_37 : decode cX0_remainder 37 = .ok (.iinc 4 (-1), 3) := by decide +kernel
theorem dX0_remainder_40 : decode cX0_remainder 40 = .ok (.goto (-30), 3) := by decide +kernel
theorem dX0_remainder_43 : decode cX0_remainder 43 = .ok (.lload_n 2, 1) := by decide +kernel
theorem dX0_remainder_44 : decode cX0_remainder 44 = .ok (.l2i, 1) := by decide +kernel
theorem dX0_remainder_45 : decode cX0_remainder 45 = .ok (.ireturn, 1) := by decide +kernel
theorem dX0_divide_0 : decode cX0_divide 0 = .ok (.lconst 0, 1) := by decide +kernel
theorem dX0_divide_1 : decode cX0_divide 1 = .ok (.lstore_n 2, 1) := by decide +kernel
theorem dX0_divide_2 : decode cX0_divide 2 = .ok (.aload_n 0, 1) := by decide +kernel
theorem dX0_divide_3 : decode cX0_divide 3 = .ok (.getfield 19, 3) := by decide +kernel
theorem dX0_divide_6 : decode cX0_divide 6 = .ok (.iconst 1, 1) := by decide +kernel
theorem dX0_divide_7 : decode cX0_divide 7 = .ok (.isub, 1) := by decide +kernel
theorem dX0_divide_8 : decode cX0_divide 8 = .ok (.istore 4, 2) := by decide +kernel
theorem dX0_divide_10 : decode cX0_divide 10 = .ok (.iload 4, 2) := by decide +kernel
theorem dX0_divide_12 : decode cX0_divide 12 = .ok (.ifCond .lt 48, 3) := by decide +kernel
theorem dX0_divide_15 : decode cX0_divide 15 = .ok (.iload_n 1, 1) := by decide +kernel
theorem dX0_divide_16 : decode cX0_divide 16 = .ok (.ifCond .le 44, 3) := by decide +kernel
theorem dX0_divide_19 : decode cX0_divide 19 = .ok (.lload_n 2, 1) := by decide +kernel
theorem dX0_divide_20 : decode cX0_divide 20 = .ok (.ldc2_w 23, 3) := by decide +kernel
theorem dX0_divide_23 : decode cX0_divide 23 = .ok (.lmul, 1) := by decide +kernel
theorem dX0_divide_24 : decode cX0_divide 24 = .ok (.aload_n 0, 1) := by decide +kernel
theorem dX0_divide_25 : decode cX0_divide 25 = .ok (.getfield 13, 3) := by decide +kernel
theorem dX0_divide_28 : decode cX0_divide 28 = .ok (.iload 4, 2) := by decide +kernel
theorem dX0_divide_30 : decode cX0_divide 30 = .ok (.iaload, 1) := by decide +kernel
theorem dX0_divide_31 : decode cX0_divide 31 = .ok (.i2l, 1) := by decide +kernel
theorem dX0_divide_32 : decode cX0_divide 32 = .ok (.ladd, 1) := by decide +kernel
theorem dX0_divide_33 : decode cX0_divide 33 = .ok (.lstore 5, 2) := by decide +kernel
theorem dX0_divide_35 : decode cX0_divide 35 = .ok (.aload_n 0, 1) := by decide +kernel
theorem dX0_divide_36 : decode cX0_divide 36 = .ok (.getfield 13, 3) := by decide +kernel
theorem dX0_divide_39 : decode cX0_divide 39 = .ok (.iload 4, 2) := by decide +kernel
theorem dX0_divide_41 : decode cX0_divide 41 = .ok (.lload 5, 2) := by decide +kernel
theorem dX0_divide_43 : decode cX0_divide 43 = .ok (.iload_n 1, 1) := by decide +kernel
theorem dX0_divide_44 : decode cX0_divide 44 = .ok (.i2l, 1) := by decide +kernel
theorem dX0_divide_45 : decode cX0_divide 45 = .ok (.ldiv, 1) := by decide +kernel
theorem dX0_divide_46 : decode cX0_divide 46 = .ok (.l2i, 1) := by decide +kernel
theorem dX0_divide_47 : decode cX0_divide 47 = .ok (.iastore, 1) := by decide +kernel
theorem dX0_divide_48 : decode cX0_divide 48 = .ok (.lload 5, 2) := by decide +kernel
theorem dX0_divide_50 : decode cX0_divide 50 = .ok (.iload_n 1, 1) := by decide +kernel
theorem dX0_divide_51 : decode cX0_divide 51 = .ok (.i2l, 1) := by decide +kernel
theorem dX0_divide_52 : decode cX0_divide 52 = .ok (.lrem, 1) := by decide +kernel
theorem dX0_divide_53 : decode cX0_divide 53 = .ok (.lstore_n 2, 1) := by decide +kernel
theorem dX0_divide_54 : decode cX0_divide 54 = .ok (.iinc 4 (-1), 3) := by decide +kernel
theorem dX0_divide_57 : decode cX0_divide 57 = .ok (.goto (-47), 3) := by decide +kernel
theorem dX0_divide_60 : decode cX0_divide 60 = .ok (.aload_n 0, 1) := by decide +kernel
theorem dX0_divide_61 : decode cX0_divide 61 = .ok (.getfield 19, 3) := by decide +kernel
theorem dX0_divide_64 : decode cX0_divide 64 = .ok (.ifCond .le 27, 3) := by decide +kernel
theorem dX0_divide_67 : decode cX0_divide 67 = .ok (.aload_n 0, 1) := by decide +kernel
theorem dX0_divide_68 : decode cX0_divide 68 = .ok (.getfield 13, 3) := by decide +kernel
theorem dX0_divide_71 : decode cX0_divide 71 = .ok (.aload_n 0, 1) := by decide +kernel
theorem dX0_divide_72 : decode cX0_divide 72 = .ok (.getfield 19, 3) := by decide +kernel
theorem dX0_divide_75 : decode cX0_divide 75 = .ok (.iconst 1, 1) := by decide +kernel
theorem dX0_divide_76 : decode cX0_divide 76 = .ok (.isub, 1) := by decide +kernel
theorem dX0_divide_77 : decode cX0_divide 77 = .ok (.iaload, 1) := by decide +kernel
theorem dX0_divide_78 : decode cX0_divide 78 = .ok (.ifCond .ne 13, 3) := by decide +kernel
theorem dX0_divide_81 : decode cX0_divide 81 = .ok (.aload_n 0, 1) := by decide +kernel
theorem dX0_divide_82 : decode cX0_divide 82 = .ok (.dup, 1) := by decide +kernel
theorem dX0_divide_83 : decode cX0_divide 83 = .ok (.getfield 19, 3) := by decide +kernel
theorem dX0_divide_86 : decode cX0_divide 86 = .ok (.iconst 1, 1) := by decide +kernel
theorem dX0_divide_87 : decode cX0_divide 87 = .ok (.isub, 1) := by decide +kernel
theorem dX0_divide_88 : decode cX0_divide 88 = .ok (.putfield 19, 3) := by decide +kernel
theorem dX0_divide_91 : decode cX0_divide 91 = .ok (.return_, 1) := by decide +kernel
theorem dX0_compareWith_0 : decode cX0_compareWith 0 = .ok (.aload_n 0, 1) := by decide +kernel
theorem dX0_compareWith_1 : decode cX0_compareWith 1 = .ok (.getfield 19, 3) := by decide +kernel
theorem dX0_compareWith_4 : decode cX0_compareWith 4 = .ok (.aload_n 1, 1) := by decide +kernel
theorem dX0_compareWith_5 : decode cX0_compareWith 5 = .ok (.getfield 19, 3) := by decide +kernel
theorem dX0_compareWith_8 : decode cX0_compareWith 8 = .ok (.if_icmp .eq 20, 3) := by decide +kernel
theorem dX0_compareWith_11 : decode cX0_compareWith 11 = .ok (.aload_n 0, 1) := by decide +kernel
theorem dX0_compareWith_12 : decode cX0_compareWith 12 = .ok (.getfield 19, 3) := by decide +kernel
theorem dX0_compareWith_15 : decode cX0_compareWith 15 = .ok (.aload_n 1, 1) := by decide +kernel
theorem dX0_compareWith_16 : decode cX0_compareWith 16 = .ok (.getfield 19, 3) := by decide +kernel
theorem dX0_compareWith_19 : decode cX0_compareWith 19 = .ok (.if_icmp .ge 7, 3) := by decide +kernel
theorem dX0_compareWith_22 : decode cX0_compareWith 22 = .ok (.iconst (-1), 1) := by decide +kernel
theorem dX0_compareWith_23 : decode cX0_compareWith 23 = .ok (.goto 4, 3) := by decide +kernel
theorem dX0_compareWith_26 : decode cX0_compareWith 26 = .ok (.iconst 1, 1) := by decide +kernel
theorem dX0_compareWith_27 : decode cX0_compareWith 27 = .ok (.ireturn, 1) := by decide +kernel
theorem dX0_compareWith_28 : decode cX0_compareWith 28 = .ok (.aload_n 0, 1) := by decide +kernel
theorem dX0_compareWith_29 : decode cX0_compareWith 29 = .ok (.getfield 19, 3) := by decide +kernel
theorem dX0_compareWith_32 : decode cX0_compareWith 32 = .ok (.iconst 1, 1) := by decide +kernel
theorem dX0_compareWith_33 : decode cX0_compareWith 33 = .ok (.isub, 1) := by decide +kernel
theorem dX0_compareWith_34 : decode cX0_compareWith 34 = .ok (.istore_n 2, 1) := by decide +kernel
theorem dX0_compareWith_35 : decode cX0_compareWith 35 = .ok (.iload_n 2, 1) := by decide +kernel
theorem dX0_compareWith_36 : decode cX0_compareWith 36 = .ok (.ifCond .lt 43, 3) := by decide +kernel
theorem dX0_compareWith_39 : decode cX0_compareWith 39 = .ok (.aload_n 0, 1) := by decide +kernel
theorem dX0_compareWith_40 : decode cX0_compareWith 40 = .ok (.getfield 13, 3) := by decide +kernel
theorem dX0_compareWith_43 : decode cX0_compareWith 43 = .ok (.iload_n 2, 1) := by decide +kernel
theorem dX0_compareWith_44 : decode cX0_compareWith 44 = .ok (.iaload, 1) := by decide +kernel
theorem dX0_compareWith_45 : decode cX0_compareWith 45 = .ok (.aload_n 1, 1) := by decide +kernel
theorem dX0_compareWith_46 : decode cX0_compareWith 46 = .ok (.iload_n 2, 1) := by decide +kernel
theorem dX0_compareWith_47 : decode cX0_compareWith 47 = .ok (.invokevirtual 34, 3) := by decide +kernel
theorem dX0_compareWith_50 : decode cX0_compareWith 50 = .ok (.if_icmp .eq 23, 3) := by decide +kernel
theorem dX0_compareWith_53 : decode cX0_compareWith 53 = .ok (.aload_n 0, 1) := by decide +kernel
theorem dX0_compareWith_54 : decode cX0_compareWith 54 = .ok (.getfield 13, 3) := by decide +kernel
theorem dX0_compareWith_57 : decode cX0_compareWith 57 = .ok (.iload_n 2, 1) := by decide +kernel
theorem dX0_compareWith_58 : decode cX0_compareWith 58 = .ok (.iaload, 1) := by decide +kernel
theorem dX0_compareWith_59 : decode cX0_compareWith 59 = .ok (.aload_n 1, 1) := by decide +kernel
theorem dX0_compareWith_60 : decode cX0_compareWith 60 = .ok (.iload_n 2, 1) := by decide +kernel
theorem dX0_compareWith_61 : decode cX0_compareWith 61 = .ok (.invokevirtual 34, 3) := by decide +kernel
theorem dX0_compareWith_64 : decode cX0_compareWith 64 = .ok (.if_icmp .ge 7, 3) := by decide +kernel
theorem dX0_compareWith_67 : decode cX0_compareWith 67 = .ok (.iconst (-1), 1) := by decide +kernel
theorem dX0_compareWith_68 : decode cX0_compareWith 68 = .ok (.goto 4, 3) := by decide +kernel
theorem dX0_compareWith_71 : decode cX0_compareWith 71 = .ok (.iconst 1, 1) := by decide +kernel
theorem dX0_compareWith_72 : decode cX0_compareWith 72 = .ok (.ireturn, 1) := by decide +kernel
theorem dX0_compareWith_73 : decode cX0_compareWith 73 = .ok (.iinc 2 (-1), 3) := by decide +kernel
theorem dX0_compareWith_76 : decode cX0_compareWith 76 = .ok (.goto (-41), 3) := by decide +kernel
theorem dX0_compareWith_79 : decode cX0_compareWith 79 = .ok (.iconst 0, 1) := by decide +kernel
theorem dX0_compareWith_80 : decode cX0_compareWith 80 = .ok (.ireturn, 1) := by decide +kernel
set_option maxRecDepth 20000 in
theorem v_X0_init_0 {g : xG} {post : xPost} {h : xHp} {nx : Nat} {x0 : Nat} {x1 : Nat} (V : ((1 < 2 ^ 31 ∧ x1 < 2 ^ 31) ∧ ((max 1 x1) ≤ 1000000 ∧ 0 + 1 ≤ 1 ∧ 0 + (max 1 x1) ≤ 112 ∧ (h x0 = some (xo 1 [.null, .int (nI 0)]) ∧ x0 ≠ nx ∧ (1 ≤ 1 ∧ (0 + (max 1 x1)) ≤ 112 ∧ post none (xup (xup h nx (xna (max 1 x1) (fun _ => 0))) x0 (xo 1 [.ref nx, .int (nI 0)])) (nx + 1)))))) : Blk g M_X0_init post 0 [(0, .ref x0), (1, .int (nI x1))] [] h nx 0 0 := by
  refine r_aload_n 0 dX0_init_0 rfl rfl ?_
  refine r_oinit wM_X0_1 wi_java_lang_Object__init____V wc_java_lang_Object__init____V dX0_init_1 (by decide) (Nat.le_of_ble_eq_true rfl) ?_
  refine r_aload_n 0 dX0_init_4 rfl rfl ?_
  refine r_iconst (v := (nI 1)) dX0_init_5 rfl ?_
  refine r_iload_n 1 dX0_init_6 rfl rfl ?_
  refine r_mmax wM_X0_7 ws_J9_max_7cf53 wI_java_lang_Math wc_J9_max_7cf53 dX0_init_7 (by decide) (Nat.le_of_ble_eq_true rfl) (by decide) (by decide) ?_
  obtain ⟨c, V⟩ := V
  rw [n_max c.1 c.2]
  show Blk g M_X0_init post 10 [(0, .ref x0), (1, .int (nI x1))] [.int (nI (max 1 x1)), .ref x0] h nx 0 0
  obtain ⟨c, c3, c4, V⟩ := V
  refine r_newi wA_int dX0_init_10 rfl c c3 c4 ?_
  show Blk g M_X0_init post 12 [(0, .ref x0), (1, .int (nI x1))] [.ref nx, .ref x0] (xup h nx (xna (max 1 x1) (fun _ => 0))) (nx + 1) 1 (0 + (max 1 x1))
  obtain ⟨q1, V⟩ := V
  obtain ⟨n2, V⟩ := V
  have q3 : (xup h nx (xna (max 1 x1) (fun _ => 0))) x0 = some (xo 1 [.null, .int (nI 0)]) := (xup_n n2).trans q1
  refine r_putF (ci := 1) (kf := 0) (T := TX0) rfl in_X0 tyX0_ok nmX0 (by decide) wF_X0_13 rfl rfl rfl (tyX0_ok 0 (by decide)) dX0_init_12 q3 (Nat.le_of_ble_eq_true rfl) rfl rfl ?_
  show Blk g M_X0_init post 15 [(0, .ref x0), (1, .int (nI x1))] [] (xup (xup h nx (xna (max 1 x1) (fun _ => 0))) x0 (xo 1 [.ref nx, .int (nI 0)])) (nx + 1) 1 (0 + (max 1 x1))
  obtain ⟨c1, c2, V⟩ := V
  exact r_vret dX0_init_15 rfl c1 c2 V
set_option maxRecDepth 20000 in
theorem v_X0_isZero_0 {g : xG} {post : xPost} {h : xHp} {nx : Nat} {x0 : Nat} (V : (∃ (o2 : Nat) (o3 : Nat), h x0 = some (xo 1 [.ref o2, .int (nI o3)]) ∧ (o3 < 2 ^ 31 ∧ ((¬ o3 = 0 → (post (some (.int (nI 0))) h nx)) ∧ (o3 = 0 → (post (some (.int (nI 1))) h nx)))))) : Blk g M_X0_isZero post 0 [(0, .ref x0)] [] h nx 0 0 := by
  refine r_aload_n 0 dX0_isZero_0 rfl rfl ?_
  obtain ⟨o2, o3, q1, V⟩ := V
  refine r_getf (ci := 1) (kf := 1) (T := TX0) rfl in_X0 (by decide) wF_X0_19 dX0_isZero_1 q1 rfl ?_
  obtain ⟨c, V⟩ := V
  refine r_if_neN (tgt := 11) dX0_isZero_4 (by decide) c (fun c => ?_) (fun c => ?_)
  · have V := V.1 c
    refine r_iconst (v := (nI 0)) dX0_isZero_11 rfl ?_
    exact r_zret (ty := .boolean) dX0_isZero_12 rfl rfl (by decide) (by decide) V
  · have V := V.2 c
    refine r_iconst (v := (nI 1)) dX0_isZero_7 rfl ?_
    refine r_goto (tgt := 12) dX0_isZero_8 (by decide) ?_
    exact r_zret (ty := .boolean) dX0_isZero_12 rfl rfl (by decide) (by decide) V
set_option maxRecDepth 20000 in
theorem v_X0_set_0 {g : xG} {post : xPost} {h : xHp} {nx : Nat} {x0 : Nat} {x1 : Nat} (V : (∃ (o2 : Nat) (o3 : Nat), h x0 = some (xo 1 [.ref o2, .int (nI o3)]) ∧ Blk g M_X0_set post 7 [(0, .ref x0), (3, .long (lN x1))] [] (xup h x0 (xo 1 [.ref o2, .int (nI 0)])) nx 0 0)) : Blk g M_X0_set post 0 [(0, .ref x0), (1, .long (lN x1))] [] h nx 0 0 := by
  refine r_lload_n 1 dX0_set_0 rfl rfl ?_
  refine r_lstore_n (L' := [(3, .long (lN x1)), (0, .ref x0), (1, .long (lN x1))]) dX0_set_1 rfl (by decide) rfl ?_
  refine r_aload_n 1 dX0_set_2 rfl rfl ?_
  refine r_iconst (v := (nI 0)) dX0_set_3 rfl ?_
  obtain ⟨o2, o3, q1, V⟩ := V
  refine r_putf (ci := 1) (kf := 1) (T := TX0) rfl in_X0 tyX0_ok nmX0 (by decide) wF_X0_19 rfl (tyX0_ok 1 (by decide)) dX0_set_4 q1 (Nat.le_of_ble_eq_true rfl) rfl rfl ?_
  show Blk g M_X0_set post 7 [(3, .long (lN x1)), (0, .ref x0), (1, .long (lN x1))] [] (xup h x0 (xo 1 [.ref o2, .int (nI 0)])) nx 0 0
  exact Blk.sub [1, 0] rfl V
set_option maxRecDepth 20000 in
theorem v_X0_set_7 {g : xG} {post : xPost} {h : xHp} {nx : Nat} {x0 : Nat} {x3 : Nat} (V : ((x3 < 2 ^ 63 ∧ 0 < 2 ^ 63) ∧ ((x3 ≤ 0 → (post none h nx)) ∧ (0 < x3 → (∃ (o2 : Nat) (o3 : Nat), h x0 = some (xo 1 [.ref o2, .int (nI o3)]) ∧ (∃ (N5 : Nat) (f6 : Nat → Nat), h o2 = some (xna N5 f6) ∧ ((o3 < 2 ^ 31 ∧ N5 < 2 ^ 31) ∧ ((N5 ≤ o3 → (post none h nx)) ∧ (o3 < N5 → ((x3 < 2 ^ 63 ∧ 0 < 1000000000 ∧ 1000000000 < 2 ^ 63) ∧ (o3 < N5 ∧ N5 < 2 ^ 31 ∧ ((x3 < 2 ^ 63 ∧ 0 < 1000000000 ∧ 1000000000 < 2 ^ 63) ∧ Blk g M_X0_set post 7 [(0, .ref x0), (3, .long (lN (x3 / 1000000000)))] [] (xup (xup h o2 (xna N5 (va_up f6 o3 (x3 % 1000000000)))) x0 (xo 1 [.ref o2, .int (nI (o3 + 1))])) nx 0 0)))))))))))) : Blk g M_X0_set post 7 [(0, .ref x0), (3, .long (lN x3))] [] h nx 0 0 := by
  refine r_lload_n 1 dX0_set_7 rfl rfl ?_
  refine r_lconst (v := (lN 0)) dX0_set_8 rfl ?_
  obtain ⟨c, V⟩ := V
  refine r_lif_le (tgt := 59) dX0_set_9 dX0_set_10 (by decide) c (fun c => ?_) (fun c => ?_)
  · have V := V.1 c
    exact r_vret dX0_set_59 rfl (by decide) (by decide) V
  · have V := V.2 c
    refine r_aload_n 0 dX0_set_13 rfl rfl ?_
    obtain ⟨o2, o3, q1, V⟩ := V
    refine r_getf (ci := 1) (kf := 1) (T := TX0) rfl in_X0 (by decide) wF_X0_19 dX0_set_14 q1 rfl ?_
    refine r_aload_n 0 dX0_set_17 rfl rfl ?_
    refine r_getf (ci := 1) (kf := 0) (T := TX0) rfl in_X0 (by decide) wF_X0_13 dX0_set_18 q1 rfl ?_
    obtain ⟨N5, f6, q4, V⟩ := V
    refine r_alen (kd := 0) (by decide) dX0_set_21 q4 ?_
    obtain ⟨c, V⟩ := V
    refine r_icmp_geN (tgt := 59) dX0_set_22 (by decide) c (fun c => ?_) (fun c => ?_)
    · have V := V.1 c
      exact r_vret dX0_set_59 rfl (by decide) (by decide) V
    · have V := V.2 c
      refine r_aload_n 0 dX0_set_25 rfl rfl ?_
      refine r_getf (ci := 1) (kf := 0) (T := TX0) rfl in_X0 (by decide) wF_X0_13 dX0_set_26 q1 rfl ?_
      refine r_aload_n 0 dX0_set_29 rfl rfl ?_
      refine r_getf (ci := 1) (kf := 1) (T := TX0) rfl in_X0 (by decide) wF_X0_19 dX0_set_30 q1 rfl ?_
      refine r_lload_n 1 dX0_set_33 rfl rfl ?_
      refine r_ldc2 (v := (lN 1000000000)) wL_X0_23 dX0_set_34 ?_
      obtain ⟨c, V⟩ := V
      refine r_lremN dX0_set_37 c ?_
      refine r_l2iN dX0_set_38 ?_
      obtain ⟨c, cN, V⟩ := V
      refine r_iastN dX0_set_39 q4 c cN ?_
      show Blk g M_X0_set post 40 [(0, .ref x0), (3, .long (lN x3))] [] (xup h o2 (xna N5 (va_up f6 o3 (x3 % 1000000000)))) nx 0 0
      refine r_lload_n 1 dX0_set_40 rfl rfl ?_
      refine r_ldc2 (v := (lN 1000000000)) wL_X0_23 dX0_set_41 ?_
      obtain ⟨c, V⟩ := V
      refine r_ldivN dX0_set_44 c ?_
      refine r_lstore_n (L' := [(3, .long (lN (x3 / 1000000000))), (0, .ref x0)]) dX0_set_45 rfl (by decide) rfl ?_
      refine r_aload_n 1 dX0_set_46 rfl rfl ?_
      refine r_dup dX0_set_47 rfl ?_
      have q7 : (xup h o2 (xna N5 (va_up f6 o3 (x3 % 1000000000)))) x0 = some (xo 1 [.ref o2, .int (nI o3)]) := (xup_n (x_apart q1 q4 x_oa)).trans q1
      refine r_getf (ci := 1) (kf := 1) (T := TX0) rfl in_X0 (by decide) wF_X0_19 dX0_set_48 q7 rfl ?_
      refine r_iconst (v := (nI 1)) dX0_set_51 rfl ?_
      refine r_iaddN dX0_set_52 ?_
      refine r_putf (ci := 1) (kf := 1) (T := TX0) rfl in_X0 tyX0_ok nmX0 (by decide) wF_X0_19 rfl (tyX0_ok 1 (by decide)) dX0_set_53 q7 (Nat.le_of_ble_eq_true rfl) rfl rfl ?_
      show Blk g M_X0_set post 56 [(3, .long (lN (x3 / 1000000000))), (0, .ref x0)] [] (xup (xup h o2 (xna N5 (va_up f6 o3 (x3 % 1000000000)))) x0 (xo 1 [.ref o2, .int (nI (o3 + 1))])) nx 0 0
      refine r_goto (tgt := 7) dX0_set_56 (by decide) ?_
      exact Blk.sub [1, 0] rfl V
set_option maxRecDepth 20000 in
theorem v_X0_copy_0 {g : xG} {post : xPost} {h : xHp} {nx : Nat} {x0 : Nat} {x1 : Nat} (V : (∃ (o2 : Nat) (o3 : Nat), h x1 = some (xo 1 [.ref o2, .int (nI o3)]) ∧ (∃ (o5 : Nat) (o6 : Nat), h x0 = some (xo 1 [.ref o5, .int (nI o6)]) ∧ (∃ (N8 : Nat) (f9 : Nat → Nat), h o5 = some (xna N8 f9) ∧ ((o3 < 2 ^ 31 ∧ N8 < 2 ^ 31) ∧ (x1 ≠ x0 ∧ (∃ (N13 : Nat) (f14 : Nat → Nat), h o2 = some (xna N13 f14) ∧ (0 + (min o3 N8) ≤ N13 ∧ 0 + (min o3 N8) ≤ N8 ∧ N13 < 2 ^ 31 ∧ N8 < 2 ^ 31) ∧ (post none (xup (xup h x0 (xo 1 [.ref o5, .int (nI (min o3 N8))])) o5 (xna N8 (va_cpy f14 f9 0 0 (min o3 N8)))) nx)))))))) : Blk g M_X0_copy post 0 [(0, .ref x0), (1, .ref x1)] [] h nx 0 0 := by
  refine r_aload_n 0 dX0_copy_0 rfl rfl ?_
  refine r_aload_n 1 dX0_copy_1 rfl rfl ?_
  obtain ⟨o2, o3, q1, V⟩ := V
  refine r_getf (ci := 1) (kf := 1) (T := TX0) rfl in_X0 (by decide) wF_X0_19 dX0_copy_2 q1 rfl ?_
  refine r_aload_n 0 dX0_copy_5 rfl rfl ?_
  obtain ⟨o5, o6, q4, V⟩ := V
  refine r_getf (ci := 1) (kf := 0) (T := TX0) rfl in_X0 (by decide) wF_X0_13 dX0_copy_6 q4 rfl ?_
  obtain ⟨N8, f9, q7, V⟩ := V
  refine r_alen (kd := 0) (by decide) dX0_copy_9 q7 ?_
  refine r_mmin wM_X0_25 ws_J9_min_7cf53 wI_java_lang_Math wc_J9_min_7cf53 dX0_copy_10 (by decide) (Nat.le_of_ble_eq_true rfl) (by decide) (by decide) ?_
  obtain ⟨c, V⟩ := V
  rw [n_min c.1 c.2]
  show Blk g M_X0_copy post 13 [(0, .ref x0), (1, .ref x1)] [.int (nI (min o3 N8)), .ref x0] h nx 0 0
  refine r_putf (ci := 1) (kf := 1) (T := TX0) rfl in_X0 tyX0_ok nmX0 (by decide) wF_X0_19 rfl (tyX0_ok 1 (by decide)) dX0_copy_13 q4 (Nat.le_of_ble_eq_true rfl) rfl rfl ?_
  show Blk g M_X0_copy post 16 [(0, .ref x0), (1, .ref x1)] [] (xup h x0 (xo 1 [.ref o5, .int (nI (min o3 N8))])) nx 0 0
  refine r_aload_n 1 dX0_copy_16 rfl rfl ?_
  obtain ⟨n10, V⟩ := V
  have q11 : (xup h x0 (xo 1 [.ref o5, .int (nI (min o3 N8))])) x1 = some (xo 1 [.ref o2, .int (nI o3)]) := (xup_n n10).trans q1
  refine r_getf (ci := 1) (kf := 0) (T := TX0) rfl in_X0 (by decide) wF_X0_13 dX0_copy_17 q11 rfl ?_
  refine r_iconst (v := (nI 0)) dX0_copy_20 rfl ?_
  refine r_aload_n 0 dX0_copy_21 rfl rfl ?_
  refine r_getf (ci := 1) (kf := 0) (T := TX0) rfl in_X0 (by decide) wF_X0_13 dX0_copy_22 (xup_s _ _ _) rfl ?_
  refine r_iconst (v := (nI 0)) dX0_copy_25 rfl ?_
  refine r_aload_n 0 dX0_copy_26 rfl rfl ?_
  refine r_getf (ci := 1) (kf := 1) (T := TX0) rfl in_X0 (by decide) wF_X0_19 dX0_copy_27 (xup_s _ _ _) rfl ?_
  obtain ⟨N13, f14, q12, V⟩ := V
  have q15 : (xup h x0 (xo 1 [.ref o5, .int (nI (min o3 N8))])) o2 = some (xna N13 f14) := (xup_n (x_apart q12 q4 x_ao)).trans q12
  have q16 : (xup h x0 (xo 1 [.ref o5, .int (nI (min o3 N8))])) o5 = some (xna N8 f9) := (xup_n (x_apart q7 q4 x_ao)).trans q7
  obtain ⟨c, V⟩ := V
  refine r_copyN wM_X0_28 wn_java_lang_System_arraycopy__Ljava_lang_Object_ILjava_lang_Object_II_V ws_java_lang_System_arraycopy__Ljava_lang_Object_ILjava_lang_Object_II_V wI_java_lang_System dX0_copy_30 (by decide) (Nat.le_of_ble_eq_true rfl) q15 q16 c ?_
  show Blk g M_X0_copy post 33 [(0, .ref x0), (1, .ref x1)] [] (xup (xup h x0 (xo 1 [.ref o5, .int (nI (min o3 N8))])) o5 (xna N8 (va_cpy f14 f9 0 0 (min o3 N8)))) nx 0 0
  exact r_vret dX0_copy_33 rfl (by decide) (by decide) V
set_option maxRecDepth 20000 in
theorem v_X0_nine_0 {g : xG} {post : xPost} {h : xHp} {nx : Nat} {x0 : Nat} {x1 : Nat} (V : (x1 < 2 ^ 31 ∧ (∃ (o2 : Nat) (o3 : Nat), h x0 = some (xo 1 [.ref o2, .int (nI o3)]) ∧ ((x1 < 2 ^ 31 ∧ o3 < 2 ^ 31) ∧ ((o3 ≤ x1 → (post (some (.int (nI 0))) h nx)) ∧ (x1 < o3 → (∃ (N5 : Nat) (f6 : Nat → Nat), h o2 = some (xna N5 f6) ∧ x1 < N5 ∧ N5 < 2 ^ 31 ∧ (post (some (.int (nI (f6 x1)))) h nx)))))))) : Blk g M_X0_nine post 0 [(0, .ref x0), (1, .int (nI x1))] [] h nx 0 0 := by
  refine r_iload_n 1 dX0_nine_0 rfl rfl ?_
  obtain ⟨c, V⟩ := V
  refine r_if_ltN (tgt := 21) dX0_nine_1 (by decide) c ?_
  refine r_iload_n 1 dX0_nine_4 rfl rfl ?_
  refine r_aload_n 0 dX0_nine_5 rfl rfl ?_
  obtain ⟨o2, o3, q1, V⟩ := V
  refine r_getf (ci := 1) (kf := 1) (T := TX0) rfl in_X0 (by decide) wF_X0_19 dX0_nine_6 q1 rfl ?_
  obtain ⟨c, V⟩ := V
  refine r_icmp_geN (tgt := 21) dX0_nine_9 (by decide) c (fun c => ?_) (fun c => ?_)
  · have V := V.1 c
    refine r_iconst (v := (nI 0)) dX0_nine_21 rfl ?_
    exact r_iret dX0_nine_22 rfl (by decide) (by decide) V
  · have V := V.2 c
    refine r_aload_n 0 dX0_nine_12 rfl rfl ?_
    refine r_getf (ci := 1) (kf := 0) (T := TX0) rfl in_X0 (by decide) wF_X0_13 dX0_nine_13 q1 rfl ?_
    refine r_iload_n 1 dX0_nine_16 rfl rfl ?_
    obtain ⟨N5, f6, q4, V⟩ := V
    obtain ⟨c, cN, V⟩ := V
    refine r_iald dX0_nine_17 q4 rfl c cN ?_
    show Blk g M_X0_nine post 18 [(0, .ref x0), (1, .int (nI x1))] [.int (nI (f6 x1))] h nx 0 0
    refine r_goto (tgt := 22) dX0_nine_18 (by decide) ?_
    exact r_iret dX0_nine_22 rfl (by decide) (by decide) V
set_option maxRecDepth 20000 in
theorem v_X0_eighteenDigits_0 {g : xG} {post : xPost} {h : xHp} {nx : Nat} {x0 : Nat} {x1 : Nat} (V : (x1 < 2 ^ 31 ∧ (∃ (o2 : Nat) (o3 : Nat), h x0 = some (xo 1 [.ref o2, .int (nI o3)]) ∧ (∃ (N5 : Nat) (f6 : Nat → Nat), h o2 = some (xna N5 f6) ∧ ((x1 < 2 ^ 31 ∧ N5 < 2 ^ 31) ∧ ((x1 < N5 → (Ct g M_X0_nine [.ref x0, .int (nI (2 * x1))] h nx (fun r h7 n8 => ∃ v9 : Nat, r = some (.int (nI v9)) ∧ (v9 < 2 ^ 31 ∧ (∃ (o13 : Nat) (o14 : Nat), h7 x0 = some (xo 1 [.ref o13, .int (nI o14)]) ∧ Ct g M_X0_nine [.ref x0, .int (nI ((2 * x1) + 1))] h7 n8 (fun r h10 n11 => ∃ v15 : Nat, r = some (.int (nI v15)) ∧ (v15 < 2 ^ 31 ∧ (post (some (.long (lN (v9 + (1000000000 * v15))))) h10 n11)))))))) ∧ (N5 ≤ x1 → (post (some (.long (lN 0))) h nx)))))))) : Blk g M_X0_eighteenDigits post 0 [(0, .ref x0), (1, .int (nI x1))] [] h nx 0 0 := by
  refine r_iload_n 1 dX0_eighteenDigits_0 rfl rfl ?_
  obtain ⟨c, V⟩ := V
  refine r_if_ltN (tgt := 13) dX0_eighteenDigits_1 (by decide) c ?_
  refine r_iload_n 1 dX0_eighteenDigits_4 rfl rfl ?_
  refine r_aload_n 0 dX0_eighteenDigits_5 rfl rfl ?_
  obtain ⟨o2, o3, q1, V⟩ := V
  refine r_getf (ci := 1) (kf := 0) (T := TX0) rfl in_X0 (by decide) wF_X0_13 dX0_eighteenDigits_6 q1 rfl ?_
  obtain ⟨N5, f6, q4, V⟩ := V
  refine r_alen (kd := 0) (by decide) dX0_eighteenDigits_9 q4 ?_
  obtain ⟨c, V⟩ := V
  refine r_icmp_ltN (tgt := 17) dX0_eighteenDigits_10 (by decide) c (fun c => ?_) (fun c => ?_)
  · have V := V.1 c
    refine r_aload_n 0 dX0_eighteenDigits_17 rfl rfl ?_
    refine r_iconst (v := (nI 2)) dX0_eighteenDigits_18 rfl ?_
    refine r_iload_n 1 dX0_eighteenDigits_19 rfl rfl ?_
    refine r_imulN dX0_eighteenDigits_20 ?_
    refine r_callV (M2 := M_X0_nine) (ci := 1) (n := 1) (As := [.int (nI (2 * x1))]) rfl (wl5 wM_X0_34 wi_X0_nine wS_X0_nine wI_StateShares_Big wc_X0_nine) (by decide +kernel) (by decide) rfl rfl (Nat.le_of_ble_eq_true rfl) dX0_eighteenDigits_21 q1 (by decide) (by decide) (Ct.imp V (fun r h7 n8 V => ?_))
    obtain ⟨v9, rfl, V⟩ := V
    show Blk g M_X0_eighteenDigits post 24 [(0, .ref x0), (1, .int (nI x1))] [.int (nI v9)] h7 n8 0 0
    obtain ⟨c, V⟩ := V
    refine r_i2lN dX0_eighteenDigits_24 c ?_
    refine r_ldc2 (v := (lN 1000000000)) wL_X0_23 dX0_eighteenDigits_25 ?_
    refine r_aload_n 0 dX0_eighteenDigits_28 rfl rfl ?_
    refine r_iconst (v := (nI 2)) dX0_eighteenDigits_29 rfl ?_
    refine r_iload_n 1 dX0_eighteenDigits_30 rfl rfl ?_
    refine r_imulN dX0_eighteenDigits_31 ?_
    refine r_iconst (v := (nI 1)) dX0_eighteenDigits_32 rfl ?_
    refine r_iaddN dX0_eighteenDigits_33 ?_
    obtain ⟨o13, o14, q12, V⟩ := V
    refine r_callV (M2 := M_X0_nine) (ci := 1) (n := 1) (As := [.int (nI ((2 * x1) + 1))]) rfl (wl5 wM_X0_34 wi_X0_nine wS_X0_nine wI_StateShares_Big wc_X0_nine) (by decide +kernel) (by decide) rfl rfl (Nat.le_of_ble_eq_true rfl) dX0_eighteenDigits_34 q12 (by decide) (by decide) (Ct.imp V (fun r h10 n11 V => ?_))
    obtain ⟨v15, rfl, V⟩ := V
    show Blk g M_X0_eighteenDigits post 37 [(0, .ref x0), (1, .int (nI x1))] [.int (nI v15), .long (lN 1000000000), .long (lN v9)] h10 n11 0 0
    obtain ⟨c, V⟩ := V
    refine r_i2lN dX0_eighteenDigits_37 c ?_
    refine r_lmulN dX0_eighteenDigits_38 ?_
    refine r_laddN dX0_eighteenDigits_39 ?_
    exact r_lret dX0_eighteenDigits_40 rfl (by decide) (by decide) V
  · have V := V.2 c
    refine r_lconst (v := (lN 0)) dX0_eighteenDigits_13 rfl ?_
    refine r_goto (tgt := 40) dX0_eighteenDigits_14 (by decide) ?_
    exact r_lret dX0_eighteenDigits_40 rfl (by decide) (by decide) V
set_option maxRecDepth 20000 in
theorem v_X0_multiply_0 {g : xG} {post : xPost} {h : xHp} {nx : Nat} {x0 : Nat} {x1 : Nat} (V : (x1 < 2 ^ 31 ∧ ((¬ x1 = 0 → ((x1 < 2 ^ 31 ∧ 1 < 2 ^ 31) ∧ ((¬ x1 = 1 → Blk g M_X0_multiply post 21 [(0, .ref x0), (1, .int (nI x1)), (2, .long (lN 0)), (4, .int (nI 0))] [] h nx 0 0) ∧ (x1 = 1 → (post none h nx))))) ∧ (x1 = 0 → (∃ (o2 : Nat) (o3 : Nat), h x0 = some (xo 1 [.ref o2, .int (nI o3)]) ∧ (post none (xup h x0 (xo 1 [.ref o2, .int (nI 0)])) nx)))))) : Blk g M_X0_multiply post 0 [(0, .ref x0), (1, .int (nI x1))] [] h nx 0 0 := by
  refine r_iload_n 1 dX0_multiply_0 rfl rfl ?_
  obtain ⟨c, V⟩ := V
  refine r_if_neN (tgt := 10) dX0_multiply_1 (by decide) c (fun c => ?_) (fun c => ?_)
  · have V := V.1 c
    refine r_iload_n 1 dX0_multiply_10 rfl rfl ?_
    refine r_iconst (v := (nI 1)) dX0_multiply_11 rfl ?_
    obtain ⟨c, V⟩ := V
    refine r_icmp_neN (tgt := 16) dX0_multiply_12 (by decide) c (fun c => ?_) (fun c => ?_)
    · have V := V.1 c
      refine r_lconst (v := (lN 0)) dX0_multiply_16 rfl ?_
      refine r_lstore_n (L' := [(2, .long (lN 0)), (0, .ref x0), (1, .int (nI x1))]) dX0_multiply_17 rfl (by decide) rfl ?_
      refine r_iconst (v := (nI 0)) dX0_multiply_18 rfl ?_
      refine r_istore (L' := [(4, .int (nI 0)), (2, .long (lN 0)), (0, .ref x0), (1, .int (nI x1))]) dX0_multiply_19 (by decide) rfl ?_
      exact Blk.sub [2, 3, 1, 0] rfl V
    · have V := V.2 c
      exact r_vret dX0_multiply_15 rfl (by decide) (by decide) V
  · have V := V.2 c
    refine r_aload_n 0 dX0_multiply_4 rfl rfl ?_
    refine r_iconst (v := (nI 0)) dX0_multiply_5 rfl ?_
    obtain ⟨o2, o3, q1, V⟩ := V
    refine r_putf (ci := 1) (kf := 1) (T := TX0) rfl in_X0 tyX0_ok nmX0 (by decide) wF_X0_19 rfl (tyX0_ok 1 (by decide)) dX0_multiply_6 q1 (Nat.le_of_ble_eq_true rfl) rfl rfl ?_
    show Blk g M_X0_multiply post 9 [(0, .ref x0), (1, .int (nI x1))] [] (xup h x0 (xo 1 [.ref o2, .int (nI 0)])) nx 0 0
    exact r_vret dX0_multiply_9 rfl (by decide) (by decide) V
set_option maxRecDepth 20000 in
theorem v_X0_multiply_21 {g : xG} {post : xPost} {h : xHp} {nx : Nat} {x0 : Nat} {x1 : Nat} {x2 : Nat} {x4 : Nat} (V : (∃ (o2 : Nat) (o3 : Nat), h x0 = some (xo 1 [.ref o2, .int (nI o3)]) ∧ ((x4 < 2 ^ 31 ∧ o3 < 2 ^ 31) ∧ ((o3 ≤ x4 → ((x2 < 2 ^ 63 ∧ 0 < 2 ^ 63) ∧ ((x2 ≤ 0 → (post none h nx)) ∧ (0 < x2 → (∃ (N5 : Nat) (f6 : Nat → Nat), h o2 = some (xna N5 f6) ∧ ((o3 < 2 ^ 31 ∧ N5 < 2 ^ 31) ∧ ((N5 ≤ o3 → (post none h nx)) ∧ (o3 < N5 → (o3 < N5 ∧ N5 < 2 ^ 31 ∧ (post none (xup (xup h o2 (xna N5 (va_up f6 o3 x2))) x0 (xo 1 [.ref o2, .int (nI (o3 + 1))])) nx)))))))))) ∧ (x4 < o3 → (∃ (N9 : Nat) (f10 : Nat → Nat), h o2 = some (xna N9 f10) ∧ x4 < N9 ∧ N9 < 2 ^ 31 ∧ ((f10 x4) < 2 ^ 31 ∧ (x1 < 2 ^ 31 ∧ (((((f10 x4) * x1) + x2) < 2 ^ 63 ∧ 0 < 1000000000 ∧ 1000000000 < 2 ^ 63) ∧ ((((((f10 x4) * x1) + x2) / 1000000000) * 1000000000) ≤ (((f10 x4) * x1) + x2) ∧ (x4 < N9 ∧ N9 < 2 ^ 31 ∧ Blk g M_X0_multiply post 21 [(0, .ref x0), (1, .int (nI x1)), (2, .long (lN ((((f10 x4) * x1) + x2) / 1000000000))), (4, .int (nI (x4 + 1)))] [] (xup h o2 (xna N9 (va_up f10 x4 ((((f10 x4) * x1) + x2) - (((((f10 x4) * x1) + x2) / 1000000000) * 1000000000))))) nx 0 0))))))))))) : Blk g M_X0_multiply post 21 [(0, .ref x0), (1, .int (nI x1)), (2, .long (lN x2)), (4, .int (nI x4))] [] h nx 0 0 := by
  refine r_iload 3 dX0_multiply_21 rfl ?_
  refine r_aload_n 0 dX0_multiply_23 rfl rfl ?_
  obtain ⟨o2, o3, q1, V⟩ := V
  refine r_getf (ci := 1) (kf := 1) (T := TX0) rfl in_X0 (by decide) wF_X0_19 dX0_multiply_24 q1 rfl ?_
  obtain ⟨c, V⟩ := V
  refine r_icmp_geN (tgt := 74) dX0_multiply_27 (by decide) c (fun c => ?_) (fun c => ?_)
  · have V := V.1 c
    refine r_lload_n 2 dX0_multiply_74 rfl rfl ?_
    refine r_lconst (v := (lN 0)) dX0_multiply_75 rfl ?_
    obtain ⟨c, V⟩ := V
    refine r_lif_le (tgt := 113) dX0_multiply_76 dX0_multiply_77 (by decide) c (fun c => ?_) (fun c => ?_)
    · have V := V.1 c
      exact r_vret dX0_multiply_113 rfl (by decide) (by decide) V
    · have V := V.2 c
      refine r_aload_n 0 dX0_multiply_80 rfl rfl ?_
      refine r_getf (ci := 1) (kf := 1) (T := TX0) rfl in_X0 (by decide) wF_X0_19 dX0_multiply_81 q1 rfl ?_
      refine r_aload_n 0 dX0_multiply_84 rfl rfl ?_
      refine r_getf (ci := 1) (kf := 0) (T := TX0) rfl in_X0 (by decide) wF_X0_13 dX0_multiply_85 q1 rfl ?_
      obtain ⟨N5, f6, q4, V⟩ := V
      refine r_alen (kd := 0) (by decide) dX0_multiply_88 q4 ?_
      obtain ⟨c, V⟩ := V
      refine r_icmp_geN (tgt := 113) dX0_multiply_89 (by decide) c (fun c => ?_) (fun c => ?_)
      · have V := V.1 c
        exact r_vret dX0_multiply_113 rfl (by decide) (by decide) V
      · have V := V.2 c
        refine r_aload_n 0 dX0_multiply_92 rfl rfl ?_
        refine r_getf (ci := 1) (kf := 0) (T := TX0) rfl in_X0 (by decide) wF_X0_13 dX0_multiply_93 q1 rfl ?_
        refine r_aload_n 0 dX0_multiply_96 rfl rfl ?_
        refine r_getf (ci := 1) (kf := 1) (T := TX0) rfl in_X0 (by decide) wF_X0_19 dX0_multiply_97 q1 rfl ?_
        refine r_lload_n 2 dX0_multiply_100 rfl rfl ?_
        refine r_l2iN dX0_multiply_101 ?_
        obtain ⟨c, cN, V⟩ := V
        refine r_iastN dX0_multiply_102 q4 c cN ?_
        show Blk g M_X0_multiply post 103 [(0, .ref x0), (1, .int (nI x1)), (2, .long (lN x2)), (4, .int (nI x4))] [] (xup h o2 (xna N5 (va_up f6 o3 x2))) nx 0 0
        refine r_aload_n 0 dX0_multiply_103 rfl rfl ?_
        refine r_dup dX0_multiply_104 rfl ?_
        have q7 : (xup h o2 (xna N5 (va_up f6 o3 x2))) x0 = some (xo 1 [.ref o2, .int (nI o3)]) := (xup_n (x_apart q1 q4 x_oa)).trans q1
        refine r_getf (ci := 1) (kf := 1) (T := TX0) rfl in_X0 (by decide) wF_X0_19 dX0_multiply_105 q7 rfl ?_
        refine r_iconst (v := (nI 1)) dX0_multiply_108 rfl ?_
        refine r_iaddN dX0_multiply_109 ?_
        refine r_putf (ci := 1) (kf := 1) (T := TX0) rfl in_X0 tyX0_ok nmX0 (by decide) wF_X0_19 rfl (tyX0_ok 1 (by decide)) dX0_multiply_110 q7 (Nat.le_of_ble_eq_true rfl) rfl rfl ?_
        show Blk g M_X0_multiply post 113 [(0, .ref x0), (1, .int (nI x1)), (2, .long (lN x2)), (4, .int (nI x4))] [] (xup (xup h o2 (xna N5 (va_up f6 o3 x2))) x0 (xo 1 [.ref o2, .int (nI (o3 + 1))])) nx 0 0
        exact r_vret dX0_multiply_113 rfl (by decide) (by decide) V
  · have V := V.2 c
    refine r_aload_n 0 dX0_multiply_30 rfl rfl ?_
    refine r_getf (ci := 1) (kf := 0) (T := TX0) rfl in_X0 (by decide) wF_X0_13 dX0_multiply_31 q1 rfl ?_
    refine r_iload 3 dX0_multiply_34 rfl ?_
    obtain ⟨N9, f10, q8, V⟩ := V
    obtain ⟨c, cN, V⟩ := V
    refine r_iald dX0_multiply_36 q8 rfl c cN ?_
    show Blk g M_X0_multiply post 37 [(0, .ref x0), (1, .int (nI x1)), (2, .long (lN x2)), (4, .int (nI x4))] [.int (nI (f10 x4))] h nx 0 0
    obtain ⟨c, V⟩ := V
    refine r_i2lN dX0_multiply_37 c ?_
    refine r_iload_n 1 dX0_multiply_38 rfl rfl ?_
    obtain ⟨c, V⟩ := V
    refine r_i2lN dX0_multiply_39 c ?_
    refine r_lmulN dX0_multiply_40 ?_
    refine r_lload_n 2 dX0_multiply_41 rfl rfl ?_
    refine r_laddN dX0_multiply_42 ?_
    refine r_lstore (L' := [(5, .long (lN (((f10 x4) * x1) + x2))), (0, .ref x0), (1, .int (nI x1)), (2, .long (lN x2)), (4, .int (nI x4))]) dX0_multiply_43 (by decide) rfl ?_
    refine r_lload 0 dX0_multiply_45 rfl ?_
    refine r_ldc2 (v := (lN 1000000000)) wL_X0_23 dX0_multiply_47 ?_
    obtain ⟨c, V⟩ := V
    refine r_ldivN dX0_multiply_50 c ?_
    refine r_lstore_n (L' := [(2, .long (lN ((((f10 x4) * x1) + x2) / 1000000000))), (5, .long (lN (((f10 x4) * x1) + x2))), (0, .ref x0), (1, .int (nI x1)), (4, .int (nI x4))]) dX0_multiply_51 rfl (by decide) rfl ?_
    refine r_aload_n 2 dX0_multiply_52 rfl rfl ?_
    refine r_getf (ci := 1) (kf := 0) (T := TX0) rfl in_X0 (by decide) wF_X0_13 dX0_multiply_53 q1 rfl ?_
    refine r_iload 4 dX0_multiply_56 rfl ?_
    refine r_lload 1 dX0_multiply_58 rfl ?_
    refine r_lload_n 0 dX0_multiply_60 rfl rfl ?_
    refine r_ldc2 (v := (lN 1000000000)) wL_X0_23 dX0_multiply_61 ?_
    refine r_lmulN dX0_multiply_64 ?_
    obtain ⟨c, V⟩ := V
    refine r_lsubN dX0_multiply_65 c ?_
    refine r_l2iN dX0_multiply_66 ?_
    obtain ⟨c, cN, V⟩ := V
    refine r_iastN dX0_multiply_67 q8 c cN ?_
    show Blk g M_X0_multiply post 68 [(2, .long (lN ((((f10 x4) * x1) + x2) / 1000000000))), (5, .long (lN (((f10 x4) * x1) + x2))), (0, .ref x0), (1, .int (nI x1)), (4, .int (nI x4))] [] (xup h o2 (xna N9 (va_up f10 x4 ((((f10 x4) * x1) + x2) - (((((f10 x4) * x1) + x2) / 1000000000) * 1000000000))))) nx 0 0
    refine r_iincN 4 (b := 1) (L' := [(4, .int (nI (x4 + 1))), (2, .long (lN ((((f10 x4) * x1) + x2) / 1000000000))), (5, .long (lN (((f10 x4) * x1) + x2))), (0, .ref x0), (1, .int (nI x1))]) dX0_multiply_68 rfl rfl (by decide) rfl ?_
    refine r_goto (tgt := 21) dX0_multiply_71 (by decide) ?_
    exact Blk.sub [3, 4, 1, 0] rfl V
set_option maxRecDepth 20000 in
theorem v_X0_addProduct_0 {g : xG} {post : xPost} {h : xHp} {nx : Nat} {x0 : Nat} {x1 : Nat} {x2 : Nat} {x3 : Nat} (V : (x2 < 2 ^ 31 ∧ ((x2 = 0 → (post none h nx)) ∧ (¬ x2 = 0 → (∃ (o2 : Nat) (o3 : Nat), h x1 = some (xo 1 [.ref o2, .int (nI o3)]) ∧ (o3 < 2 ^ 31 ∧ ((o3 = 0 → (post none h nx)) ∧ (¬ o3 = 0 → (x3 < 2 ^ 31 ∧ (∃ (o5 : Nat) (o6 : Nat), h x0 = some (xo 1 [.ref o5, .int (nI o6)]) ∧ Blk g M_X0_addProduct post 22 [(0, .ref x0), (1, .ref x1), (2, .int (nI x2)), (3, .int (nI x3)), (4, .int (nI o6))] [] h nx 0 0)))))))))) : Blk g M_X0_addProduct post 0 [(0, .ref x0), (1, .ref x1), (2, .int (nI x2)), (3, .int (nI x3))] [] h nx 0 0 := by
  refine r_iload_n 2 dX0_addProduct_0 rfl rfl ?_
  obtain ⟨c, V⟩ := V
  refine r_if_eqN (tgt := 15) dX0_addProduct_1 (by decide) c (fun c => ?_) (fun c => ?_)
  · have V := V.1 c
    exact r_vret dX0_addProduct_15 rfl (by decide) (by decide) V
  · have V := V.2 c
    refine r_aload_n 1 dX0_addProduct_4 rfl rfl ?_
    obtain ⟨o2, o3, q1, V⟩ := V
    refine r_getf (ci := 1) (kf := 1) (T := TX0) rfl in_X0 (by decide) wF_X0_19 dX0_addProduct_5 q1 rfl ?_
    obtain ⟨c, V⟩ := V
    refine r_if_eqN (tgt := 15) dX0_addProduct_8 (by decide) c (fun c => ?_) (fun c => ?_)
    · have V := V.1 c
      exact r_vret dX0_addProduct_15 rfl (by decide) (by decide) V
    · have V := V.2 c
      refine r_iload_n 3 dX0_addProduct_11 rfl rfl ?_
      obtain ⟨c, V⟩ := V
      refine r_if_geN (tgt := 16) dX0_addProduct_12 (by decide) c ?_
      refine r_aload_n 0 dX0_addProduct_16 rfl rfl ?_
      obtain ⟨o5, o6, q4, V⟩ := V
      refine r_getf (ci := 1) (kf := 1) (T := TX0) rfl in_X0 (by decide) wF_X0_19 dX0_addProduct_17 q4 rfl ?_
      refine r_istore (L' := [(4, .int (nI o6)), (0, .ref x0), (1, .ref x1), (2, .int (nI x2)), (3, .int (nI x3))]) dX0_addProduct_20 (by decide) rfl ?_
      exact Blk.sub [1, 2, 3, 4, 0] rfl V
set_option maxRecDepth 20000 in
theorem v_X0_addProduct_22 {g : xG} {post : xPost} {h : xHp} {nx : Nat} {x0 : Nat} {x1 : Nat} {x2 : Nat} {x3 : Nat} {x4 : Nat} (V : ((x4 < 2 ^ 31 ∧ x3 < 2 ^ 31) ∧ ((x3 ≤ x4 → (∃ (o2 : Nat) (o3 : Nat), h x1 = some (xo 1 [.ref o2, .int (nI o3)]) ∧ Blk g M_X0_addProduct post 66 [(0, .ref x0), (1, .ref x1), (2, .int (nI x2)), (3, .int (nI x3)), (4, .int (nI (o3 + x3))), (5, .long (lN 0)), (7, .int (nI x3))] [] h nx 0 0)) ∧ (x4 < x3 → (∃ (o5 : Nat) (o6 : Nat), h x0 = some (xo 1 [.ref o5, .int (nI o6)]) ∧ (∃ (N8 : Nat) (f9 : Nat → Nat), h o5 = some (xna N8 f9) ∧ ((x4 < 2 ^ 31 ∧ N8 < 2 ^ 31) ∧ ((N8 ≤ x4 → (∃ (o11 : Nat) (o12 : Nat), h x1 = some (xo 1 [.ref o11, .int (nI o12)]) ∧ Blk g M_X0_addProduct post 66 [(0, .ref x0), (1, .ref x1), (2, .int (nI x2)), (3, .int (nI x3)), (4, .int (nI (o12 + x3))), (5, .long (lN 0)), (7, .int (nI x3))] [] h nx 0 0)) ∧ (x4 < N8 → (x4 < N8 ∧ N8 < 2 ^ 31 ∧ Blk g M_X0_addProduct post 22 [(0, .ref x0), (1, .ref x1), (2, .int (nI x2)), (3, .int (nI x3)), (4, .int (nI (x4 + 1)))] [] (xup h o5 (xna N8 (va_up f9 x4 0))) nx 0 0)))))))))) : Blk g M_X0_addProduct post 22 [(0, .ref x0), (1, .ref x1), (2, .int (nI x2)), (3, .int (nI x3)), (4, .int (nI x4))] [] h nx 0 0 := by
  refine r_iload 4 dX0_addProduct_22 rfl ?_
  refine r_iload_n 3 dX0_addProduct_24 rfl rfl ?_
  obtain ⟨c, V⟩ := V
  refine r_icmp_geN (tgt := 52) dX0_addProduct_25 (by decide) c (fun c => ?_) (fun c => ?_)
  · have V := V.1 c
    refine r_aload_n 1 dX0_addProduct_52 rfl rfl ?_
    obtain ⟨o2, o3, q1, V⟩ := V
    refine r_getf (ci := 1) (kf := 1) (T := TX0) rfl in_X0 (by decide) wF_X0_19 dX0_addProduct_53 q1 rfl ?_
    refine r_iload_n 3 dX0_addProduct_56 rfl rfl ?_
    refine r_iaddN dX0_addProduct_57 ?_
    refine r_istore (L' := [(4, .int (nI (o3 + x3))), (0, .ref x0), (1, .ref x1), (2, .int (nI x2)), (3, .int (nI x3))]) dX0_addProduct_58 (by decide) rfl ?_
    refine r_lconst (v := (lN 0)) dX0_addProduct_60 rfl ?_
    refine r_lstore (L' := [(5, .long (lN 0)), (4, .int (nI (o3 + x3))), (0, .ref x0), (1, .ref x1), (2, .int (nI x2)), (3, .int (nI x3))]) dX0_addProduct_61 (by decide) rfl ?_
    refine r_iload_n 5 dX0_addProduct_63 rfl rfl ?_
    refine r_istore (L' := [(7, .int (nI x3)), (5, .long (lN 0)), (4, .int (nI (o3 + x3))), (0, .ref x0), (1, .ref x1), (2, .int (nI x2)), (3, .int (nI x3))]) dX0_addProduct_64 (by decide) rfl ?_
    exact Blk.sub [3, 4, 5, 6, 2, 1, 0] rfl V
  · have V := V.2 c
    refine r_iload 4 dX0_addProduct_28 rfl ?_
    refine r_aload_n 0 dX0_addProduct_30 rfl rfl ?_
    obtain ⟨o5, o6, q4, V⟩ := V
    refine r_getf (ci := 1) (kf := 0) (T := TX0) rfl in_X0 (by decide) wF_X0_13 dX0_addProduct_31 q4 rfl ?_
    obtain ⟨N8, f9, q7, V⟩ := V
    refine r_alen (kd := 0) (by decide) dX0_addProduct_34 q7 ?_
    obtain ⟨c, V⟩ := V
    refine r_icmp_geN (tgt := 52) dX0_addProduct_35 (by decide) c (fun c => ?_) (fun c => ?_)
    · have V := V.1 c
      refine r_aload_n 1 dX0_addProduct_52 rfl rfl ?_
      obtain ⟨o11, o12, q10, V⟩ := V
      refine r_getf (ci := 1) (kf := 1) (T := TX0) rfl in_X0 (by decide) wF_X0_19 dX0_addProduct_53 q10 rfl ?_
      refine r_iload_n 3 dX0_addProduct_56 rfl rfl ?_
      refine r_iaddN dX0_addProduct_57 ?_
      refine r_istore (L' := [(4, .int (nI (o12 + x3))), (0, .ref x0), (1, .ref x1), (2, .int (nI x2)), (3, .int (nI x3))]) dX0_addProduct_58 (by decide) rfl ?_
      refine r_lconst (v := (lN 0)) dX0_addProduct_60 rfl ?_
      refine r_lstore (L' := [(5, .long (lN 0)), (4, .int (nI (o12 + x3))), (0, .ref x0), (1, .ref x1), (2, .int (nI x2)), (3, .int (nI x3))]) dX0_addProduct_61 (by decide) rfl ?_
      refine r_iload_n 5 dX0_addProduct_63 rfl rfl ?_
      refine r_istore (L' := [(7, .int (nI x3)), (5, .long (lN 0)), (4, .int (nI (o12 + x3))), (0, .ref x0), (1, .ref x1), (2, .int (nI x2)), (3, .int (nI x3))]) dX0_addProduct_64 (by decide) rfl ?_
      exact Blk.sub [3, 4, 5, 6, 2, 1, 0] rfl V
    · have V := V.2 c
      refine r_aload_n 0 dX0_addProduct_38 rfl rfl ?_
      refine r_getf (ci := 1) (kf := 0) (T := TX0) rfl in_X0 (by decide) wF_X0_13 dX0_addProduct_39 q4 rfl ?_
      refine r_iload 4 dX0_addProduct_42 rfl ?_
      refine r_iconst (v := (nI 0)) dX0_addProduct_44 rfl ?_
      obtain ⟨c, cN, V⟩ := V
      refine r_iastN dX0_addProduct_45 q7 c cN ?_
      show Blk g M_X0_addProduct post 46 [(0, .ref x0), (1, .ref x1), (2, .int (nI x2)), (3, .int (nI x3)), (4, .int (nI x4))] [] (xup h o5 (xna N8 (va_up f9 x4 0))) nx 0 0
      refine r_iincN 4 (b := 1) (L' := [(4, .int (nI (x4 + 1))), (0, .ref x0), (1, .ref x1), (2, .int (nI x2)), (3, .int (nI x3))]) dX0_addProduct_46 rfl rfl (by decide) rfl ?_
      refine r_goto (tgt := 22) dX0_addProduct_49 (by decide) ?_
      exact Blk.sub [1, 2, 3, 4, 0] rfl V
set_option maxRecDepth 20000 in
theorem v_X0_addProduct_66 {g : xG} {post : xPost} {h : xHp} {nx : Nat} {x0 : Nat} {x1 : Nat} {x2 : Nat} {x3 : Nat} {x4 : Nat} {x5 : Nat} {x7 : Nat} (V : (∃ (o2 : Nat) (o3 : Nat), h x0 = some (xo 1 [.ref o2, .int (nI o3)]) ∧ (∃ (N5 : Nat) (f6 : Nat → Nat), h o2 = some (xna N5 f6) ∧ ((x7 < 2 ^ 31 ∧ N5 < 2 ^ 31) ∧ ((N5 ≤ x7 → ((o3 < 2 ^ 31 ∧ x7 < 2 ^ 31) ∧ (post none (xup h x0 (xo 1 [.ref o2, .int (nI (max o3 x7))])) nx))) ∧ (x7 < N5 → ((x7 < 2 ^ 31 ∧ x4 < 2 ^ 31) ∧ ((x7 < x4 → Blk g M_X0_addProduct post 90 [(0, .ref x0), (1, .ref x1), (2, .int (nI x2)), (3, .int (nI x3)), (4, .int (nI x4)), (5, .long (lN x5)), (7, .int (nI x7))] [] h nx 0 0) ∧ (x4 ≤ x7 → ((x5 < 2 ^ 63 ∧ 0 < 2 ^ 63) ∧ ((x5 ≤ 0 → ((o3 < 2 ^ 31 ∧ x7 < 2 ^ 31) ∧ (post none (xup h x0 (xo 1 [.ref o2, .int (nI (max o3 x7))])) nx))) ∧ (0 < x5 → Blk g M_X0_addProduct post 90 [(0, .ref x0), (1, .ref x1), (2, .int (nI x2)), (3, .int (nI x3)), (4, .int (nI x4)), (5, .long (lN x5)), (7, .int (nI x7))] [] h nx 0 0)))))))))))) : Blk g M_X0_addProduct post 66 [(0, .ref x0), (1, .ref x1), (2, .int (nI x2)), (3, .int (nI x3)), (4, .int (nI x4)), (5, .long (lN x5)), (7, .int (nI x7))] [] h nx 0 0 := by
  refine r_iload 6 dX0_addProduct_66 rfl ?_
  refine r_aload_n 0 dX0_addProduct_68 rfl rfl ?_
  obtain ⟨o2, o3, q1, V⟩ := V
  refine r_getf (ci := 1) (kf := 0) (T := TX0) rfl in_X0 (by decide) wF_X0_13 dX0_addProduct_69 q1 rfl ?_
  obtain ⟨N5, f6, q4, V⟩ := V
  refine r_alen (kd := 0) (by decide) dX0_addProduct_72 q4 ?_
  obtain ⟨c, V⟩ := V
  refine r_icmp_geN (tgt := 172) dX0_addProduct_73 (by decide) c (fun c => ?_) (fun c => ?_)
  · have V := V.1 c
    refine r_aload_n 0 dX0_addProduct_172 rfl rfl ?_
    refine r_aload_n 0 dX0_addProduct_173 rfl rfl ?_
    refine r_getf (ci := 1) (kf := 1) (T := TX0) rfl in_X0 (by decide) wF_X0_19 dX0_addProduct_174 q1 rfl ?_
    refine r_iload 6 dX0_addProduct_177 rfl ?_
    refine r_mmax wM_X0_7 ws_J9_max_7cf53 wI_java_lang_Math wc_J9_max_7cf53 dX0_addProduct_179 (by decide) (Nat.le_of_ble_eq_true rfl) (by decide) (by decide) ?_
    obtain ⟨c, V⟩ := V
    rw [n_max c.1 c.2]
    show Blk g M_X0_addProduct post 182 [(0, .ref x0), (1, .ref x1), (2, .int (nI x2)), (3, .int (nI x3)), (4, .int (nI x4)), (5, .long (lN x5)), (7, .int (nI x7))] [.int (nI (max o3 x7)), .ref x0] h nx 0 0
    refine r_putf (ci := 1) (kf := 1) (T := TX0) rfl in_X0 tyX0_ok nmX0 (by decide) wF_X0_19 rfl (tyX0_ok 1 (by decide)) dX0_addProduct_182 q1 (Nat.le_of_ble_eq_true rfl) rfl rfl ?_
    show Blk g M_X0_addProduct post 185 [(0, .ref x0), (1, .ref x1), (2, .int (nI x2)), (3, .int (nI x3)), (4, .int (nI x4)), (5, .long (lN x5)), (7, .int (nI x7))] [] (xup h x0 (xo 1 [.ref o2, .int (nI (max o3 x7))])) nx 0 0
    exact r_vret dX0_addProduct_185 rfl (by decide) (by decide) V
  · have V := V.2 c
    refine r_iload 6 dX0_addProduct_76 rfl ?_
    refine r_iload 4 dX0_addProduct_78 rfl ?_
    obtain ⟨c, V⟩ := V
    refine r_icmp_ltN (tgt := 90) dX0_addProduct_80 (by decide) c (fun c => ?_) (fun c => ?_)
    · have V := V.1 c
      exact Blk.sub [0, 1, 2, 3, 4, 5, 6] rfl V
    · have V := V.2 c
      refine r_lload 5 dX0_addProduct_83 rfl ?_
      refine r_lconst (v := (lN 0)) dX0_addProduct_85 rfl ?_
      obtain ⟨c, V⟩ := V
      refine r_lif_le (tgt := 172) dX0_addProduct_86 dX0_addProduct_87 (by decide) c (fun c => ?_) (fun c => ?_)
      · have V := V.1 c
        refine r_aload_n 0 dX0_addProduct_172 rfl rfl ?_
        refine r_aload_n 0 dX0_addProduct_173 rfl rfl ?_
        refine r_getf (ci := 1) (kf := 1) (T := TX0) rfl in_X0 (by decide) wF_X0_19 dX0_addProduct_174 q1 rfl ?_
        refine r_iload 6 dX0_addProduct_177 rfl ?_
        refine r_mmax wM_X0_7 ws_J9_max_7cf53 wI_java_lang_Math wc_J9_max_7cf53 dX0_addProduct_179 (by decide) (Nat.le_of_ble_eq_true rfl) (by decide) (by decide) ?_
        obtain ⟨c, V⟩ := V
        rw [n_max c.1 c.2]
        show Blk g M_X0_addProduct post 182 [(0, .ref x0), (1, .ref x1), (2, .int (nI x2)), (3, .int (nI x3)), (4, .int (nI x4)), (5, .long (lN x5)), (7, .int (nI x7))] [.int (nI (max o3 x7)), .ref x0] h nx 0 0
        refine r_putf (ci := 1) (kf := 1) (T := TX0) rfl in_X0 tyX0_ok nmX0 (by decide) wF_X0_19 rfl (tyX0_ok 1 (by decide)) dX0_addProduct_182 q1 (Nat.le_of_ble_eq_true rfl) rfl rfl ?_
        show Blk g M_X0_addProduct post 185 [(0, .ref x0), (1, .ref x1), (2, .int (nI x2)), (3, .int (nI x3)), (4, .int (nI x4)), (5, .long (lN x5)), (7, .int (nI x7))] [] (xup h x0 (xo 1 [.ref o2, .int (nI (max o3 x7))])) nx 0 0
        exact r_vret dX0_addProduct_185 rfl (by decide) (by decide) V
      · have V := V.2 c
        exact Blk.sub [0, 1, 2, 3, 4, 5, 6] rfl V
set_option maxRecDepth 20000 in
theorem v_X0_addProduct_90 {g : xG} {post : xPost} {h : xHp} {nx : Nat} {x0 : Nat} {x1 : Nat} {x2 : Nat} {x3 : Nat} {x4 : Nat} {x5 : Nat} {x7 : Nat} (V : (∃ (o2 : Nat) (o3 : Nat), h x0 = some (xo 1 [.ref o2, .int (nI o3)]) ∧ ((x7 < 2 ^ 31 ∧ o3 < 2 ^ 31) ∧ ((o3 ≤ x7 → ((x7 < 2 ^ 31 ∧ x4 < 2 ^ 31) ∧ ((x4 ≤ x7 → (((x5 + 0) < 2 ^ 63 ∧ 0 < 1000000000 ∧ 1000000000 < 2 ^ 63) ∧ ((((x5 + 0) / 1000000000) * 1000000000) ≤ (x5 + 0) ∧ (∃ (N5 : Nat) (f6 : Nat → Nat), h o2 = some (xna N5 f6) ∧ x7 < N5 ∧ N5 < 2 ^ 31 ∧ Blk g M_X0_addProduct post 66 [(0, .ref x0), (1, .ref x1), (2, .int (nI x2)), (3, .int (nI x3)), (4, .int (nI x4)), (5, .long (lN ((x5 + 0) / 1000000000))), (7, .int (nI (x7 + 1)))] [] (xup h o2 (xna N5 (va_up f6 x7 ((x5 + 0) - (((x5 + 0) / 1000000000) * 1000000000))))) nx 0 0)))) ∧ (x7 < x4 → (∃ (o8 : Nat) (o9 : Nat), h x1 = some (xo 1 [.ref o8, .int (nI o9)]) ∧ (x3 ≤ x7 ∧ (∃ (N11 : Nat) (f12 : Nat → Nat), h o8 = some (xna N11 f12) ∧ (x7 - x3) < N11 ∧ N11 < 2 ^ 31 ∧ ((f12 (x7 - x3)) < 2 ^ 31 ∧ (x2 < 2 ^ 31 ∧ ((((x5 + 0) + ((f12 (x7 - x3)) * x2)) < 2 ^ 63 ∧ 0 < 1000000000 ∧ 1000000000 < 2 ^ 63) ∧ (((((x5 + 0) + ((f12 (x7 - x3)) * x2)) / 1000000000) * 1000000000) ≤ ((x5 + 0) + ((f12 (x7 - x3)) * x2)) ∧ (∃ (N14 : Nat) (f15 : Nat → Nat), h o2 = some (xna N14 f15) ∧ x7 < N14 ∧ N14 < 2 ^ 31 ∧ Blk g M_X0_addProduct post 66 [(0, .ref x0), (1, .ref x1), (2, .int (nI x2)), (3, .int (nI x3)), (4, .int (nI x4)), (5, .long (lN (((x5 + 0) + ((f12 (x7 - x3)) * x2)) / 1000000000))), (7, .int (nI (x7 + 1)))] [] (xup h o2 (xna N14 (va_up f15 x7 (((x5 + 0) + ((f12 (x7 - x3)) * x2)) - ((((x5 + 0) + ((f12 (x7 - x3)) * x2)) / 1000000000) * 1000000000))))) nx 0 0)))))))))))) ∧ (x7 < o3 → (∃ (N17 : Nat) (f18 : Nat → Nat), h o2 = some (xna N17 f18) ∧ x7 < N17 ∧ N17 < 2 ^ 31 ∧ ((f18 x7) < 2 ^ 31 ∧ ((x7 < 2 ^ 31 ∧ x4 < 2 ^ 31) ∧ ((x4 ≤ x7 → (((x5 + (f18 x7)) < 2 ^ 63 ∧ 0 < 1000000000 ∧ 1000000000 < 2 ^ 63) ∧ ((((x5 + (f18 x7)) / 1000000000) * 1000000000) ≤ (x5 + (f18 x7)) ∧ (x7 < N17 ∧ N17 < 2 ^ 31 ∧ Blk g M_X0_addProduct post 66 [(0, .ref x0), (1, .ref x1), (2, .int (nI x2)), (3, .int (nI x3)), (4, .int (nI x4)), (5, .long (lN ((x5 + (f18 x7)) / 1000000000))), (7, .int (nI (x7 + 1)))] [] (xup h o2 (xna N17 (va_up f18 x7 ((x5 + (f18 x7)) - (((x5 + (f18 x7)) / 1000000000) * 1000000000))))) nx 0 0)))) ∧ (x7 < x4 → (∃ (o20 : Nat) (o21 : Nat), h x1 = some (xo 1 [.ref o20, .int (nI o21)]) ∧ (x3 ≤ x7 ∧ (∃ (N23 : Nat) (f24 : Nat → Nat), h o20 = some (xna N23 f24) ∧ (x7 - x3) < N23 ∧ N23 < 2 ^ 31 ∧ ((f24 (x7 - x3)) < 2 ^ 31 ∧ (x2 < 2 ^ 31 ∧ ((((x5 + (f18 x7)) + ((f24 (x7 - x3)) * x2)) < 2 ^ 63 ∧ 0 < 1000000000 ∧ 1000000000 < 2 ^ 63) ∧ (((((x5 + (f18 x7)) + ((f24 (x7 - x3)) * x2)) / 1000000000) * 1000000000) ≤ ((x5 + (f18 x7)) + ((f24 (x7 - x3)) * x2)) ∧ (x7 < N17 ∧ N17 < 2 ^ 31 ∧ Blk g M_X0_addProduct post 66 [(0, .ref x0), (1, .ref x1), (2, .int (nI x2)), (3, .int (nI x3)), (4, .int (nI x4)), (5, .long (lN (((x5 + (f18 x7)) + ((f24 (x7 - x3)) * x2)) / 1000000000))), (7, .int (nI (x7 + 1)))] [] (xup h o2 (xna N17 (va_up f18 x7 (((x5 + (f18 x7)) + ((f24 (x7 - x3)) * x2)) - ((((x5 + (f18 x7)) + ((f24 (x7 - x3)) * x2)) / 1000000000) * 1000000000))))) nx 0 0)))))))))))))))))) : Blk g M_X0_addProduct post 90 [(0, .ref x0), (1, .ref x1), (2, .int (nI x2)), (3, .int (nI x3)), (4, .int (nI x4)), (5, .long (lN x5)), (7, .int (nI x7))] [] h nx 0 0 := by
  refine r_lload 5 dX0_addProduct_90 rfl ?_
  refine r_iload 6 dX0_addProduct_92 rfl ?_
  refine r_aload_n 0 dX0_addProduct_94 rfl rfl ?_
  obtain ⟨o2, o3, q1, V⟩ := V
  refine r_getf (ci := 1) (kf := 1) (T := TX0) rfl in_X0 (by decide) wF_X0_19 dX0_addProduct_95 q1 rfl ?_
  obtain ⟨c, V⟩ := V
  refine r_icmp_geN (tgt := 111) dX0_addProduct_98 (by decide) c (fun c => ?_) (fun c => ?_)
  · have V := V.1 c
    refine r_iconst (v := (nI 0)) dX0_addProduct_111 rfl ?_
    refine r_i2lN dX0_addProduct_112 (by decide) ?_
    refine r_laddN dX0_addProduct_113 ?_
    refine r_lstore (L' := [(8, .long (lN (x5 + 0))), (0, .ref x0), (1, .ref x1), (2, .int (nI x2)), (3, .int (nI x3)), (4, .int (nI x4)), (5, .long (lN x5)), (7, .int (nI x7))]) dX0_addProduct_114 (by decide) rfl ?_
    refine r_iload 7 dX0_addProduct_116 rfl ?_
    refine r_iload 5 dX0_addProduct_118 rfl ?_
    obtain ⟨c, V⟩ := V
    refine r_icmp_geN (tgt := 141) dX0_addProduct_120 (by decide) c (fun c => ?_) (fun c => ?_)
    · have V := V.1 c
      refine r_lload 0 dX0_addProduct_141 rfl ?_
      refine r_ldc2 (v := (lN 1000000000)) wL_X0_23 dX0_addProduct_143 ?_
      obtain ⟨c, V⟩ := V
      refine r_ldivN dX0_addProduct_146 c ?_
      refine r_lstore (L' := [(5, .long (lN ((x5 + 0) / 1000000000))), (8, .long (lN (x5 + 0))), (0, .ref x0), (1, .ref x1), (2, .int (nI x2)), (3, .int (nI x3)), (4, .int (nI x4)), (7, .int (nI x7))]) dX0_addProduct_147 (by decide) rfl ?_
      refine r_aload_n 2 dX0_addProduct_149 rfl rfl ?_
      refine r_getf (ci := 1) (kf := 0) (T := TX0) rfl in_X0 (by decide) wF_X0_13 dX0_addProduct_150 q1 rfl ?_
      refine r_iload 7 dX0_addProduct_153 rfl ?_
      refine r_lload 1 dX0_addProduct_155 rfl ?_
      refine r_lload 0 dX0_addProduct_157 rfl ?_
      refine r_ldc2 (v := (lN 1000000000)) wL_X0_23 dX0_addProduct_159 ?_
      refine r_lmulN dX0_addProduct_162 ?_
      obtain ⟨c, V⟩ := V
      refine r_lsubN dX0_addProduct_163 c ?_
      refine r_l2iN dX0_addProduct_164 ?_
      obtain ⟨N5, f6, q4, V⟩ := V
      obtain ⟨c, cN, V⟩ := V
      refine r_iastN dX0_addProduct_165 q4 c cN ?_
      show Blk g M_X0_addProduct post 166 [(5, .long (lN ((x5 + 0) / 1000000000))), (8, .long (lN (x5 + 0))), (0, .ref x0), (1, .ref x1), (2, .int (nI x2)), (3, .int (nI x3)), (4, .int (nI x4)), (7, .int (nI x7))] [] (xup h o2 (xna N5 (va_up f6 x7 ((x5 + 0) - (((x5 + 0) / 1000000000) * 1000000000))))) nx 0 0
      refine r_iincN 7 (b := 1) (L' := [(7, .int (nI (x7 + 1))), (5, .long (lN ((x5 + 0) / 1000000000))), (8, .long (lN (x5 + 0))), (0, .ref x0), (1, .ref x1), (2, .int (nI x2)), (3, .int (nI x3)), (4, .int (nI x4))]) dX0_addProduct_166 rfl rfl (by decide) rfl ?_
      refine r_goto (tgt := 66) dX0_addProduct_169 (by decide) ?_
      exact Blk.sub [3, 4, 5, 6, 7, 1, 0] rfl V
    · have V := V.2 c
      refine r_lload 0 dX0_addProduct_123 rfl ?_
      refine r_aload_n 2 dX0_addProduct_125 rfl rfl ?_
      obtain ⟨o8, o9, q7, V⟩ := V
      refine r_getf (ci := 1) (kf := 0) (T := TX0) rfl in_X0 (by decide) wF_X0_13 dX0_addProduct_126 q7 rfl ?_
      refine r_iload 7 dX0_addProduct_129 rfl ?_
      refine r_iload_n 4 dX0_addProduct_131 rfl rfl ?_
      obtain ⟨c, V⟩ := V
      refine r_isubN dX0_addProduct_132 c ?_
      obtain ⟨N11, f12, q10, V⟩ := V
      obtain ⟨c, cN, V⟩ := V
      refine r_iald dX0_addProduct_133 q10 rfl c cN ?_
      show Blk g M_X0_addProduct post 134 [(8, .long (lN (x5 + 0))), (0, .ref x0), (1, .ref x1), (2, .int (nI x2)), (3, .int (nI x3)), (4, .int (nI x4)), (5, .long (lN x5)), (7, .int (nI x7))] [.int (nI (f12 (x7 - x3))), .long (lN (x5 + 0))] h nx 0 0
      obtain ⟨c, V⟩ := V
      refine r_i2lN dX0_addProduct_134 c ?_
      refine r_iload_n 3 dX0_addProduct_135 rfl rfl ?_
      obtain ⟨c, V⟩ := V
      refine r_i2lN dX0_addProduct_136 c ?_
      refine r_lmulN dX0_addProduct_137 ?_
      refine r_laddN dX0_addProduct_138 ?_
      refine r_lstore (L' := [(8, .long (lN ((x5 + 0) + ((f12 (x7 - x3)) * x2)))), (0, .ref x0), (1, .ref x1), (2, .int (nI x2)), (3, .int (nI x3)), (4, .int (nI x4)), (5, .long (lN x5)), (7, .int (nI x7))]) dX0_addProduct_139 (by decide) rfl ?_
      refine r_lload 0 dX0_addProduct_141 rfl ?_
      refine r_ldc2 (v := (lN 1000000000)) wL_X0_23 dX0_addProduct_143 ?_
      obtain ⟨c, V⟩ := V
      refine r_ldivN dX0_addProduct_146 c ?_
      refine r_lstore (L' := [(5, .long (lN (((x5 + 0) + ((f12 (x7 - x3)) * x2)) / 1000000000))), (8, .long (lN ((x5 + 0) + ((f12 (x7 - x3)) * x2)))), (0, .ref x0), (1, .ref x1), (2, .int (nI x2)), (3, .int (nI x3)), (4, .int (nI x4)), (7, .int (nI x7))]) dX0_addProduct_147 (by decide) rfl ?_
      refine r_aload_n 2 dX0_addProduct_149 rfl rfl ?_
      refine r_getf (ci := 1) (kf := 0) (T := TX0) rfl in_X0 (by decide) wF_X0_13 dX0_addProduct_150 q1 rfl ?_
      refine r_iload 7 dX0_addProduct_153 rfl ?_
      refine r_lload 1 dX0_addProduct_155 rfl ?_
      refine r_lload 0 dX0_addProduct_157 rfl ?_
      refine r_ldc2 (v := (lN 1000000000)) wL_X0_23 dX0_addProduct_159 ?_
      refine r_lmulN dX0_addProduct_162 ?_
      obtain ⟨c, V⟩ := V
      refine r_lsubN dX0_addProduct_163 c ?_
      refine r_l2iN dX0_addProduct_164 ?_
      obtain ⟨N14, f15, q13, V⟩ := V
      obtain ⟨c, cN, V⟩ := V
      refine r_iastN dX0_addProduct_165 q13 c cN ?_
      show Blk g M_X0_addProduct post 166 [(5, .long (lN (((x5 + 0) + ((f12 (x7 - x3)) * x2)) / 1000000000))), (8, .long (lN ((x5 + 0) + ((f12 (x7 - x3)) * x2)))), (0, .ref x0), (1, .ref x1), (2, .int (nI x2)), (3, .int (nI x3)), (4, .int (nI x4)), (7, .int (nI x7))] [] (xup h o2 (xna N14 (va_up f15 x7 (((x5 + 0) + ((f12 (x7 - x3)) * x2)) - ((((x5 + 0) + ((f12 (x7 - x3)) * x2)) / 1000000000) * 1000000000))))) nx 0 0
      refine r_iincN 7 (b := 1) (L' := [(7, .int (nI (x7 + 1))), (5, .long (lN (((x5 + 0) + ((f12 (x7 - x3)) * x2)) / 1000000000))), (8, .long (lN ((x5 + 0) + ((f12 (x7 - x3)) * x2)))), (0, .ref x0), (1, .ref x1), (2, .int (nI x2)), (3, .int (nI x3)), (4, .int (nI x4))]) dX0_addProduct_166 rfl rfl (by decide) rfl ?_
      refine r_goto (tgt := 66) dX0_addProduct_169 (by decide) ?_
      exact Blk.sub [3, 4, 5, 6, 7, 1, 0] rfl V
  · have V := V.2 c
    refine r_aload_n 0 dX0_addProduct_101 rfl rfl ?_
    refine r_getf (ci := 1) (kf := 0) (T := TX0) rfl in_X0 (by decide) wF_X0_13 dX0_addProduct_102 q1 rfl ?_
    refine r_iload 6 dX0_addProduct_105 rfl ?_
    obtain ⟨N17, f18, q16, V⟩ := V
    obtain ⟨c, cN, V⟩ := V
    refine r_iald dX0_addProduct_107 q16 rfl c cN ?_
    show Blk g M_X0_addProduct post 108 [(0, .ref x0), (1, .ref x1), (2, .int (nI x2)), (3, .int (nI x3)), (4, .int (nI x4)), (5, .long (lN x5)), (7, .int (nI x7))] [.int (nI (f18 x7)), .long (lN x5)] h nx 0 0
    refine r_goto (tgt := 112) dX0_addProduct_108 (by decide) ?_
    obtain ⟨c, V⟩ := V
    refine r_i2lN dX0_addProduct_112 c ?_
    refine r_laddN dX0_addProduct_113 ?_
    refine r_lstore (L' := [(8, .long (lN (x5 + (f18 x7)))), (0, .ref x0), (1, .ref x1), (2, .int (nI x2)), (3, .int (nI x3)), (4, .int (nI x4)), (5, .long (lN x5)), (7, .int (nI x7))]) dX0_addProduct_114 (by decide) rfl ?_
    refine r_iload 7 dX0_addProduct_116 rfl ?_
    refine r_iload 5 dX0_addProduct_118 rfl ?_
    obtain ⟨c, V⟩ := V
    refine r_icmp_geN (tgt := 141) dX0_addProduct_120 (by decide) c (fun c => ?_) (fun c => ?_)
    · have V := V.1 c
      refine r_lload 0 dX0_addProduct_141 rfl ?_
      refine r_ldc2 (v := (lN 1000000000)) wL_X0_23 dX0_addProduct_143 ?_
      obtain ⟨c, V⟩ := V
      refine r_ldivN dX0_addProduct_146 c ?_
      refine r_lstore (L' := [(5, .long (lN ((x5 + (f18 x7)) / 1000000000))), (8, .long (lN (x5 + (f18 x7)))), (0, .ref x0), (1, .ref x1), (2, .int (nI x2)), (3, .int (nI x3)), (4, .int (nI x4)), (7, .int (nI x7))]) dX0_addProduct_147 (by decide) rfl ?_
      refine r_aload_n 2 dX0_addProduct_149 rfl rfl ?_
      refine r_getf (ci := 1) (kf := 0) (T := TX0) rfl in_X0 (by decide) wF_X0_13 dX0_addProduct_150 q1 rfl ?_
      refine r_iload 7 dX0_addProduct_153 rfl ?_
      refine r_lload 1 dX0_addProduct_155 rfl ?_
      refine r_lload 0 dX0_addProduct_157 rfl ?_
      refine r_ldc2 (v := (lN 1000000000)) wL_X0_23 dX0_addProduct_159 ?_
      refine r_lmulN dX0_addProduct_162 ?_
      obtain ⟨c, V⟩ := V
      refine r_lsubN dX0_addProduct_163 c ?_
      refine r_l2iN dX0_addProduct_164 ?_
      obtain ⟨c, cN, V⟩ := V
      refine r_iastN dX0_addProduct_165 q16 c cN ?_
      show Blk g M_X0_addProduct post 166 [(5, .long (lN ((x5 + (f18 x7)) / 1000000000))), (8, .long (lN (x5 + (f18 x7)))), (0, .ref x0), (1, .ref x1), (2, .int (nI x2)), (3, .int (nI x3)), (4, .int (nI x4)), (7, .int (nI x7))] [] (xup h o2 (xna N17 (va_up f18 x7 ((x5 + (f18 x7)) - (((x5 + (f18 x7)) / 1000000000) * 1000000000))))) nx 0 0
      refine r_iincN 7 (b := 1) (L' := [(7, .int (nI (x7 + 1))), (5, .long (lN ((x5 + (f18 x7)) / 1000000000))), (8, .long (lN (x5 + (f18 x7)))), (0, .ref x0), (1, .ref x1), (2, .int (nI x2)), (3, .int (nI x3)), (4, .int (nI x4))]) dX0_addProduct_166 rfl rfl (by decide) rfl ?_
      refine r_goto (tgt := 66) dX0_addProduct_169 (by decide) ?_
      exact Blk.sub [3, 4, 5, 6, 7, 1, 0] rfl V
    · have V := V.2 c
      refine r_lload 0 dX0_addProduct_123 rfl ?_
      refine r_aload_n 2 dX0_addProduct_125 rfl rfl ?_
      obtain ⟨o20, o21, q19, V⟩ := V
      refine r_getf (ci := 1) (kf := 0) (T := TX0) rfl in_X0 (by decide) wF_X0_13 dX0_addProduct_126 q19 rfl ?_
      refine r_iload 7 dX0_addProduct_129 rfl ?_
      refine r_iload_n 4 dX0_addProduct_131 rfl rfl ?_
      obtain ⟨c, V⟩ := V
      refine r_isubN dX0_addProduct_132 c ?_
      obtain ⟨N23, f24, q22, V⟩ := V
      obtain ⟨c, cN, V⟩ := V
      refine r_iald dX0_addProduct_133 q22 rfl c cN ?_
      show Blk g M_X0_addProduct post 134 [(8, .long (lN (x5 + (f18 x7)))), (0, .ref x0), (1, .ref x1), (2, .int (nI x2)), (3, .int (nI x3)), (4, .int (nI x4)), (5, .long (lN x5)), (7, .int (nI x7))] [.int (nI (f24 (x7 - x3))), .long (lN (x5 + (f18 x7)))] h nx 0 0
      obtain ⟨c, V⟩ := V
      refine r_i2lN dX0_addProduct_134 c ?_
      refine r_iload_n 3 dX0_addProduct_135 rfl rfl ?_
      obtain ⟨c, V⟩ := V
      refine r_i2lN dX0_addProduct_136 c ?_
      refine r_lmulN dX0_addProduct_137 ?_
      refine r_laddN dX0_addProduct_138 ?_
      refine r_lstore (L' := [(8, .long (lN ((x5 + (f18 x7)) + ((f24 (x7 - x3)) * x2)))), (0, .ref x0), (1, .ref x1), (2, .int (nI x2)), (3, .int (nI x3)), (4, .int (nI x4)), (5, .long (lN x5)), (7, .int (nI x7))]) dX0_addProduct_139 (by decide) rfl ?_
      refine r_lload 0 dX0_addProduct_141 rfl ?_
      refine r_ldc2 (v := (lN 1000000000)) wL_X0_23 dX0_addProduct_143 ?_
      obtain ⟨c, V⟩ := V
      refine r_ldivN dX0_addProduct_146 c ?_
      refine r_lstore (L' := [(5, .long (lN (((x5 + (f18 x7)) + ((f24 (x7 - x3)) * x2)) / 1000000000))), (8, .long (lN ((x5 + (f18 x7)) + ((f24 (x7 - x3)) * x2)))), (0, .ref x0), (1, .ref x1), (2, .int (nI x2)), (3, .int (nI x3)), (4, .int (nI x4)), (7, .int (nI x7))]) dX0_addProduct_147 (by decide) rfl ?_
      refine r_aload_n 2 dX0_addProduct_149 rfl rfl ?_
      refine r_getf (ci := 1) (kf := 0) (T := TX0) rfl in_X0 (by decide) wF_X0_13 dX0_addProduct_150 q1 rfl ?_
      refine r_iload 7 dX0_addProduct_153 rfl ?_
      refine r_lload 1 dX0_addProduct_155 rfl ?_
      refine r_lload 0 dX0_addProduct_157 rfl ?_
      refine r_ldc2 (v := (lN 1000000000)) wL_X0_23 dX0_addProduct_159 ?_
      refine r_lmulN dX0_addProduct_162 ?_
      obtain ⟨c, V⟩ := V
      refine r_lsubN dX0_addProduct_163 c ?_
      refine r_l2iN dX0_addProduct_164 ?_
      obtain ⟨c, cN, V⟩ := V
      refine r_iastN dX0_addProduct_165 q16 c cN ?_
      show Blk g M_X0_addProduct post 166 [(5, .long (lN (((x5 + (f18 x7)) + ((f24 (x7 - x3)) * x2)) / 1000000000))), (8, .long (lN ((x5 + (f18 x7)) + ((f24 (x7 - x3)) * x2)))), (0, .ref x0), (1, .ref x1), (2, .int (nI x2)), (3, .int (nI x3)), (4, .int (nI x4)), (7, .int (nI x7))] [] (xup h o2 (xna N17 (va_up f18 x7 (((x5 + (f18 x7)) + ((f24 (x7 - x3)) * x2)) - ((((x5 + (f18 x7)) + ((f24 (x7 - x3)) * x2)) / 1000000000) * 1000000000))))) nx 0 0
      refine r_iincN 7 (b := 1) (L' := [(7, .int (nI (x7 + 1))), (5, .long (lN (((x5 + (f18 x7)) + ((f24 (x7 - x3)) * x2)) / 1000000000))), (8, .long (lN ((x5 + (f18 x7)) + ((f24 (x7 - x3)) * x2)))), (0, .ref x0), (1, .ref x1), (2, .int (nI x2)), (3, .int (nI x3)), (4, .int (nI x4))]) dX0_addProduct_166 rfl rfl (by decide) rfl ?_
      refine r_goto (tgt := 66) dX0_addProduct_169 (by decide) ?_
      exact Blk.sub [3, 4, 5, 6, 7, 1, 0] rfl V
set_option maxRecDepth 20000 in
theorem v_X0_addLongProduct_0 {g : xG} {post : xPost} {h : xHp} {nx : Nat} {x0 : Nat} {x1 : Nat} {x2 : Nat} (V : ((x2 < 2 ^ 63 ∧ 0 < 1000000000 ∧ 1000000000 < 2 ^ 63) ∧ (∃ (o4 : Nat) (o5 : Nat), h x0 = some (xo 1 [.ref o4, .int (nI o5)]) ∧ Ct g M_X0_addProduct [.ref x0, .ref x1, .int (nI (x2 % 1000000000)), .int (nI 0)] h nx (fun r h1 n2 => r = none ∧ ((x2 < 2 ^ 63 ∧ 0 < 1000000000 ∧ 1000000000 < 2 ^ 63) ∧ (∃ (o9 : Nat) (o10 : Nat), h1 x0 = some (xo 1 [.ref o9, .int (nI o10)]) ∧ Ct g M_X0_addProduct [.ref x0, .ref x1, .int (nI (x2 / 1000000000)), .int (nI 1)] h1 n2 (fun r h6 n7 => r = none ∧ (post none h6 n7)))))))) : Blk g M_X0_addLongProduct post 0 [(0, .ref x0), (1, .ref x1), (2, .long (lN x2))] [] h nx 0 0 := by
  refine r_aload_n 0 dX0_addLongProduct_0 rfl rfl ?_
  refine r_aload_n 1 dX0_addLongProduct_1 rfl rfl ?_
  refine r_lload_n 2 dX0_addLongProduct_2 rfl rfl ?_
  refine r_ldc2 (v := (lN 1000000000)) wL_X0_23 dX0_addLongProduct_3 ?_
  obtain ⟨c, V⟩ := V
  refine r_lremN dX0_addLongProduct_6 c ?_
  refine r_l2iN dX0_addLongProduct_7 ?_
  refine r_iconst (v := (nI 0)) dX0_addLongProduct_8 rfl ?_
  obtain ⟨o4, o5, q3, V⟩ := V
  refine r_callV (M2 := M_X0_addProduct) (ci := 1) (n := 3) (As := [.ref x1, .int (nI (x2 % 1000000000)), .int (nI 0)]) rfl (wl5 wM_X0_38 wi_X0_addProduct wS_X0_addProduct wI_StateShares_Big wc_X0_addProduct) (by decide +kernel) (by decide) rfl rfl (Nat.le_of_ble_eq_true rfl) dX0_addLongProduct_9 q3 (by decide) (by decide) (Ct.imp V (fun r h1 n2 V => ?_))
  obtain ⟨rfl, V⟩ := V
  show Blk g M_X0_addLongProduct post 12 [(0, .ref x0), (1, .ref x1), (2, .long (lN x2))] [] h1 n2 0 0
  refine r_aload_n 0 dX0_addLongProduct_12 rfl rfl ?_
  refine r_aload_n 1 dX0_addLongProduct_13 rfl rfl ?_
  refine r_lload_n 2 dX0_addLongProduct_14 rfl rfl ?_
  refine r_ldc2 (v := (lN 1000000000)) wL_X0_23 dX0_addLongProduct_15 ?_
  obtain ⟨c, V⟩ := V
  refine r_ldivN dX0_addLongProduct_18 c ?_
  refine r_l2iN dX0_addLongProduct_19 ?_
  refine r_iconst (v := (nI 1)) dX0_addLongProduct_20 rfl ?_
  obtain ⟨o9, o10, q8, V⟩ := V
  refine r_callV (M2 := M_X0_addProduct) (ci := 1) (n := 3) (As := [.ref x1, .int (nI (x2 / 1000000000)), .int (nI 1)]) rfl (wl5 wM_X0_38 wi_X0_addProduct wS_X0_addProduct wI_StateShares_Big wc_X0_addProduct) (by decide +kernel) (by decide) rfl rfl (Nat.le_of_ble_eq_true rfl) dX0_addLongProduct_21 q8 (by decide) (by decide) (Ct.imp V (fun r h6 n7 V => ?_))
  obtain ⟨rfl, V⟩ := V
  show Blk g M_X0_addLongProduct post 24 [(0, .ref x0), (1, .ref x1), (2, .long (lN x2))] [] h6 n7 0 0
  exact r_vret dX0_addLongProduct_24 rfl (by decide) (by decide) V
set_option maxRecDepth 20000 in
theorem v_X0_subtract_0 {g : xG} {post : xPost} {h : xHp} {nx : Nat} {x0 : Nat} {x1 : Nat} (V : Blk g M_X0_subtract post 4 [(0, .ref x0), (1, .ref x1), (2, .int (nI 0)), (3, .int (nI 0))] [] h nx 0 0) : Blk g M_X0_subtract post 0 [(0, .ref x0), (1, .ref x1)] [] h nx 0 0 := by
  refine r_iconst (v := (nI 0)) dX0_subtract_0 rfl ?_
  refine r_istore_n (L' := [(2, .int (nI 0)), (0, .ref x0), (1, .ref x1)]) dX0_subtract_1 rfl (by decide) rfl ?_
  refine r_iconst (v := (nI 0)) dX0_subtract_2 rfl ?_
  refine r_istore_n (L' := [(3, .int (nI 0)), (2, .int (nI 0)), (0, .ref x0), (1, .ref x1)]) dX0_subtract_3 rfl (by decide) rfl ?_
  exact Blk.sub [2, 3, 1, 0] rfl V
set_option maxRecDepth 20000 in
theorem v_X0_subtract_4 {g : xG} {post : xPost} {h : xHp} {nx : Nat} {x0 : Nat} {x1 : Nat} {x2 : Nat} {x3 : Nat} (V : (∃ (o2 : Nat) (o3 : Nat), h x0 = some (xo 1 [.ref o2, .int (nI o3)]) ∧ ((x3 < 2 ^ 31 ∧ o3 < 2 ^ 31) ∧ ((o3 ≤ x3 → Blk g M_X0_subtract post 58 [(0, .ref x0)] [] h nx 0 0) ∧ (x3 < o3 → (∃ (N5 : Nat) (f6 : Nat → Nat), h o2 = some (xna N5 f6) ∧ x3 < N5 ∧ N5 < 2 ^ 31 ∧ (∃ (o10 : Nat) (o11 : Nat), h x1 = some (xo 1 [.ref o10, .int (nI o11)]) ∧ Ct g M_X0_nine [.ref x1, .int (nI x3)] h nx (fun r h7 n8 => ∃ v12 : Nat, r = some (.int (nI v12)) ∧ ((0 ≤ (((nI (f6 x3)) - (nI v12)) - (nI x2)) → (∃ (o14 : Nat) (o15 : Nat), h7 x0 = some (xo 1 [.ref o14, .int (nI o15)]) ∧ (∃ (N17 : Nat) (f18 : Nat → Nat), h7 o14 = some (xna N17 f18) ∧ ∃ z19 : Nat, ((((nI (f6 x3)) - (nI v12)) - (nI x2)) + (nI 0)) = nI z19 ∧ x3 < N17 ∧ N17 < 2 ^ 31 ∧ Blk g M_X0_subtract post 4 [(0, .ref x0), (1, .ref x1), (2, .int (nI 0)), (3, .int (nI (x3 + 1)))] [] (xup h7 o14 (xna N17 (va_up f18 x3 z19))) n8 0 0))) ∧ (¬ 0 ≤ (((nI (f6 x3)) - (nI v12)) - (nI x2)) → (∃ (o22 : Nat) (o23 : Nat), h7 x0 = some (xo 1 [.ref o22, .int (nI o23)]) ∧ (∃ (N25 : Nat) (f26 : Nat → Nat), h7 o22 = some (xna N25 f26) ∧ ∃ z27 : Nat, ((((nI (f6 x3)) - (nI v12)) - (nI x2)) + (nI 1000000000)) = nI z27 ∧ x3 < N25 ∧ N25 < 2 ^ 31 ∧ Blk g M_X0_subtract post 4 [(0, .ref x0), (1, .ref x1), (2, .int (nI 1)), (3, .int (nI (x3 + 1)))] [] (xup h7 o22 (xna N25 (va_up f26 x3 z27))) n8 0 0)))))))))))) : Blk g M_X0_subtract post 4 [(0, .ref x0), (1, .ref x1), (2, .int (nI x2)), (3, .int (nI x3))] [] h nx 0 0 := by
  refine r_iload_n 3 dX0_subtract_4 rfl rfl ?_
  refine r_aload_n 0 dX0_subtract_5 rfl rfl ?_
  obtain ⟨o2, o3, q1, V⟩ := V
  refine r_getf (ci := 1) (kf := 1) (T := TX0) rfl in_X0 (by decide) wF_X0_19 dX0_subtract_6 q1 rfl ?_
  obtain ⟨c, V⟩ := V
  refine r_icmp_geN (tgt := 58) dX0_subtract_9 (by decide) c (fun c => ?_) (fun c => ?_)
  · have V := V.1 c
    exact Blk.sub [0] rfl V
  · have V := V.2 c
    refine r_aload_n 0 dX0_subtract_12 rfl rfl ?_
    refine r_getf (ci := 1) (kf := 0) (T := TX0) rfl in_X0 (by decide) wF_X0_13 dX0_subtract_13 q1 rfl ?_
    refine r_iload_n 3 dX0_subtract_16 rfl rfl ?_
    obtain ⟨N5, f6, q4, V⟩ := V
    obtain ⟨c, cN, V⟩ := V
    refine r_iald dX0_subtract_17 q4 rfl c cN ?_
    show Blk g M_X0_subtract post 18 [(0, .ref x0), (1, .ref x1), (2, .int (nI x2)), (3, .int (nI x3))] [.int (nI (f6 x3))] h nx 0 0
    refine r_aload_n 1 dX0_subtract_18 rfl rfl ?_
    refine r_iload_n 3 dX0_subtract_19 rfl rfl ?_
    obtain ⟨o10, o11, q9, V⟩ := V
    refine r_callV (M2 := M_X0_nine) (ci := 1) (n := 1) (As := [.int (nI x3)]) rfl (wl5 wM_X0_34 wi_X0_nine wS_X0_nine wI_StateShares_Big wc_X0_nine) (by decide +kernel) (by decide) rfl rfl (Nat.le_of_ble_eq_true rfl) dX0_subtract_20 q9 (by decide) (by decide) (Ct.imp V (fun r h7 n8 V => ?_))
    obtain ⟨v12, rfl, V⟩ := V
    show Blk g M_X0_subtract post 23 [(0, .ref x0), (1, .ref x1), (2, .int (nI x2)), (3, .int (nI x3))] [.int (nI v12), .int (nI (f6 x3))] h7 n8 0 0
    refine r_isub dX0_subtract_23 ?_
    refine r_iload_n 2 dX0_subtract_24 rfl rfl ?_
    refine r_isub dX0_subtract_25 ?_
    refine r_istore (L' := [(4, .int (((nI (f6 x3)) - (nI v12)) - (nI x2))), (0, .ref x0), (1, .ref x1), (2, .int (nI x2)), (3, .int (nI x3))]) dX0_subtract_26 (by decide) rfl ?_
    refine r_iload 0 dX0_subtract_28 rfl ?_
    refine r_if_ge (tgt := 37) dX0_subtract_30 (by decide) (fun c => ?_) (fun c => ?_)
    · have V := V.1 c
      refine r_iconst (v := (nI 0)) dX0_subtract_37 rfl ?_
      refine r_istore_n (L' := [(2, .int (nI 0)), (4, .int (((nI (f6 x3)) - (nI v12)) - (nI x2))), (0, .ref x0), (1, .ref x1), (3, .int (nI x3))]) dX0_subtract_38 rfl (by decide) rfl ?_
      refine r_aload_n 2 dX0_subtract_39 rfl rfl ?_
      obtain ⟨o14, o15, q13, V⟩ := V
      refine r_getf (ci := 1) (kf := 0) (T := TX0) rfl in_X0 (by decide) wF_X0_13 dX0_subtract_40 q13 rfl ?_
      refine r_iload_n 4 dX0_subtract_43 rfl rfl ?_
      refine r_iload 1 dX0_subtract_44 rfl ?_
      refine r_iload_n 0 dX0_subtract_46 rfl rfl ?_
      refine r_ldc (v := (nI 1000000000)) wK_X0_42 dX0_subtract_47 ?_
      refine r_imulN dX0_subtract_49 ?_
      refine r_iadd dX0_subtract_50 ?_
      obtain ⟨N17, f18, q16, V⟩ := V
      obtain ⟨z19, e20, V⟩ := V
      refine Blk.to (st' := [.int (nI z19), .int (nI x3), .ref o14]) ?_ ⟨rfl, by rw [e20], rfl⟩
      obtain ⟨c, cN, V⟩ := V
      refine r_iastN dX0_subtract_51 q16 c cN ?_
      show Blk g M_X0_subtract post 52 [(2, .int (nI 0)), (4, .int (((nI (f6 x3)) - (nI v12)) - (nI x2))), (0, .ref x0), (1, .ref x1), (3, .int (nI x3))] [] (xup h7 o14 (xna N17 (va_up f18 x3 z19))) n8 0 0
      refine r_iincN 4 (b := 1) (L' := [(3, .int (nI (x3 + 1))), (2, .int (nI 0)), (4, .int (((nI (f6 x3)) - (nI v12)) - (nI x2))), (0, .ref x0), (1, .ref x1)]) dX0_subtract_52 rfl rfl (by decide) rfl ?_
      refine r_goto (tgt := 4) dX0_subtract_55 (by decide) ?_
      exact Blk.sub [3, 4, 1, 0] rfl V
    · have V := V.2 c
      refine r_iconst (v := (nI 1)) dX0_subtract_33 rfl ?_
      refine r_goto (tgt := 38) dX0_subtract_34 (by decide) ?_
      refine r_istore_n (L' := [(2, .int (nI 1)), (4, .int (((nI (f6 x3)) - (nI v12)) - (nI x2))), (0, .ref x0), (1, .ref x1), (3, .int (nI x3))]) dX0_subtract_38 rfl (by decide) rfl ?_
      refine r_aload_n 2 dX0_subtract_39 rfl rfl ?_
      obtain ⟨o22, o23, q21, V⟩ := V
      refine r_getf (ci := 1) (kf := 0) (T := TX0) rfl in_X0 (by decide) wF_X0_13 dX0_subtract_40 q21 rfl ?_
      refine r_iload_n 4 dX0_subtract_43 rfl rfl ?_
      refine r_iload 1 dX0_subtract_44 rfl ?_
      refine r_iload_n 0 dX0_subtract_46 rfl rfl ?_
      refine r_ldc (v := (nI 1000000000)) wK_X0_42 dX0_subtract_47 ?_
      refine r_imulN dX0_subtract_49 ?_
      refine r_iadd dX0_subtract_50 ?_
      obtain ⟨N25, f26, q24, V⟩ := V
      obtain ⟨z27, e28, V⟩ := V
      refine Blk.to (st' := [.int (nI z27), .int (nI x3), .ref o22]) ?_ ⟨rfl, by rw [e28], rfl⟩
      obtain ⟨c, cN, V⟩ := V
      refine r_iastN dX0_subtract_51 q24 c cN ?_
      show Blk g M_X0_subtract post 52 [(2, .int (nI 1)), (4, .int (((nI (f6 x3)) - (nI v12)) - (nI x2))), (0, .ref x0), (1, .ref x1), (3, .int (nI x3))] [] (xup h7 o22 (xna N25 (va_up f26 x3 z27))) n8 0 0
      refine r_iincN 4 (b := 1) (L' := [(3, .int (nI (x3 + 1))), (2, .int (nI 1)), (4, .int (((nI (f6 x3)) - (nI v12)) - (nI x2))), (0, .ref x0), (1, .ref x1)]) dX0_subtract_52 rfl rfl (by decide) rfl ?_
      refine r_goto (tgt := 4) dX0_subtract_55 (by decide) ?_
      exact Blk.sub [3, 4, 1, 0] rfl V
set_option maxRecDepth 20000 in
theorem v_X0_subtract_58 {g : xG} {post : xPost} {h : xHp} {nx : Nat} {x0 : Nat} (V : (∃ (o2 : Nat) (o3 : Nat), h x0 = some (xo 1 [.ref o2, .int (nI o3)]) ∧ (o3 < 2 ^ 31 ∧ ((o3 = 0 → (post none h nx)) ∧ (0 < o3 → (1 ≤ o3 ∧ (∃ (N5 : Nat) (f6 : Nat → Nat), h o2 = some (xna N5 f6) ∧ (o3 - 1) < N5 ∧ N5 < 2 ^ 31 ∧ ((f6 (o3 - 1)) < 2 ^ 31 ∧ ((¬ (f6 (o3 - 1)) = 0 → (post none h nx)) ∧ ((f6 (o3 - 1)) = 0 → (1 ≤ o3 ∧ Blk g M_X0_subtract post 58 [(0, .ref x0)] [] (xup h x0 (xo 1 [.ref o2, .int (nI (o3 - 1))])) nx 0 0))))))))))) : Blk g M_X0_subtract post 58 [(0, .ref x0)] [] h nx 0 0 := by
  refine r_aload_n 0 dX0_subtract_58 rfl rfl ?_
  obtain ⟨o2, o3, q1, V⟩ := V
  refine r_getf (ci := 1) (kf := 1) (T := TX0) rfl in_X0 (by decide) wF_X0_19 dX0_subtract_59 q1 rfl ?_
  obtain ⟨c, V⟩ := V
  refine r_if_leN (tgt := 92) dX0_subtract_62 (by decide) c (fun c => ?_) (fun c => ?_)
  · have V := V.1 c
    exact r_vret dX0_subtract_92 rfl (by decide) (by decide) V
  · have V := V.2 c
    refine r_aload_n 0 dX0_subtract_65 rfl rfl ?_
    refine r_getf (ci := 1) (kf := 0) (T := TX0) rfl in_X0 (by decide) wF_X0_13 dX0_subtract_66 q1 rfl ?_
    refine r_aload_n 0 dX0_subtract_69 rfl rfl ?_
    refine r_getf (ci := 1) (kf := 1) (T := TX0) rfl in_X0 (by decide) wF_X0_19 dX0_subtract_70 q1 rfl ?_
    refine r_iconst (v := (nI 1)) dX0_subtract_73 rfl ?_
    obtain ⟨c, V⟩ := V
    refine r_isubN dX0_subtract_74 c ?_
    obtain ⟨N5, f6, q4, V⟩ := V
    obtain ⟨c, cN, V⟩ := V
    refine r_iald dX0_subtract_75 q4 rfl c cN ?_
    show Blk g M_X0_subtract post 76 [(0, .ref x0)] [.int (nI (f6 (o3 - 1)))] h nx 0 0
    obtain ⟨c, V⟩ := V
    refine r_if_neN (tgt := 92) dX0_subtract_76 (by decide) c (fun c => ?_) (fun c => ?_)
    · have V := V.1 c
      exact r_vret dX0_subtract_92 rfl (by decide) (by decide) V
    · have V := V.2 c
      refine r_aload_n 0 dX0_subtract_79 rfl rfl ?_
      refine r_dup dX0_subtract_80 rfl ?_
      refine r_getf (ci := 1) (kf := 1) (T := TX0) rfl in_X0 (by decide) wF_X0_19 dX0_subtract_81 q1 rfl ?_
      refine r_iconst (v := (nI 1)) dX0_subtract_84 rfl ?_
      obtain ⟨c, V⟩ := V
      refine r_isubN dX0_subtract_85 c ?_
      refine r_putf (ci := 1) (kf := 1) (T := TX0) rfl in_X0 tyX0_ok nmX0 (by decide) wF_X0_19 rfl (tyX0_ok 1 (by decide)) dX0_subtract_86 q1 (Nat.le_of_ble_eq_true rfl) rfl rfl ?_
      show Blk g M_X0_subtract post 89 [(0, .ref x0)] [] (xup h x0 (xo 1 [.ref o2, .int (nI (o3 - 1))])) nx 0 0
      refine r_goto (tgt := 58) dX0_subtract_89 (by decide) ?_
      exact Blk.sub [0] rfl V
set_option maxRecDepth 20000 in
theorem v_X0_remainder_0 {g : xG} {post : xPost} {h : xHp} {nx : Nat} {x0 : Nat} {x1 : Nat} (V : (∃ (o2 : Nat) (o3 : Nat), h x0 = some (xo 1 [.ref o2, .int (nI o3)]) ∧ Blk g M_X0_remainder post 10 [(0, .ref x0), (1, .int (nI x1)), (2, .long (lN 0)), (4, .int (nI o3 - nI 1))] [] h nx 0 0)) : Blk g M_X0_remainder post 0 [(0, .ref x0), (1, .int (nI x1))] [] h nx 0 0 := by
  refine r_lconst (v := (lN 0)) dX0_remainder_0 rfl ?_
  refine r_lstore_n (L' := [(2, .long (lN 0)), (0, .ref x0), (1, .int (nI x1))]) dX0_remainder_1 rfl (by decide) rfl ?_
  refine r_aload_n 1 dX0_remainder_2 rfl rfl ?_
  obtain ⟨o2, o3, q1, V⟩ := V
  refine r_getf (ci := 1) (kf := 1) (T := TX0) rfl in_X0 (by decide) wF_X0_19 dX0_remainder_3 q1 rfl ?_
  refine r_iconst (v := (nI 1)) dX0_remainder_6 rfl ?_
  refine r_isub dX0_remainder_7 ?_
  refine r_istore (L' := [(4, .int (nI o3 - nI 1)), (2, .long (lN 0)), (0, .ref x0), (1, .int (nI x1))]) dX0_remainder_8 (by decide) rfl ?_
  exact Blk.sub [2, 3, 1, 0] rfl V
set_option maxRecDepth 20000 in
theorem v_X0_remainder_10 {g : xG} {post : xPost} {h : xHp} {nx : Nat} {x0 : Nat} {x1 : Nat} {x2 : Nat} {x4 : Nat} (V : (x4 < 2 ^ 31 ∧ ((x4 = 0 → (post (some (.int (nI x2))) h nx)) ∧ (0 < x4 → (x1 < 2 ^ 31 ∧ ((x1 = 0 → (post (some (.int (nI x2))) h nx)) ∧ (0 < x1 → (∃ (o2 : Nat) (o3 : Nat), h x0 = some (xo 1 [.ref o2, .int (nI o3)]) ∧ (∃ (N5 : Nat) (f6 : Nat → Nat), h o2 = some (xna N5 f6) ∧ 1 ≤ x4 ∧ (x4 - 1) < N5 ∧ N5 < 2 ^ 31 ∧ ((f6 (x4 - 1)) < 2 ^ 31 ∧ (x1 < 2 ^ 31 ∧ ((((x2 * 1000000000) + (f6 (x4 - 1))) < 2 ^ 63 ∧ 0 < x1 ∧ x1 < 2 ^ 63) ∧ (1 ≤ x4 ∧ Blk g M_X0_remainder post 10 [(0, .ref x0), (1, .int (nI x1)), (2, .long (lN (((x2 * 1000000000) + (f6 (x4 - 1))) % x1))), (4, .int (nI (x4 - 1) - nI 1))] [] h nx 0 0))))))))))))) : Blk g M_X0_remainder post 10 [(0, .ref x0), (1, .int (nI x1)), (2, .long (lN x2)), (4, .int (nI x4 - nI 1))] [] h nx 0 0 := by
  refine r_iload 3 dX0_remainder_10 rfl ?_
  obtain ⟨c, V⟩ := V
  refine r_if_ltP (tgt := 43) dX0_remainder_12 (by decide) c (fun c => ?_) (fun c => ?_)
  · have V := V.1 c
    refine r_lload_n 2 dX0_remainder_43 rfl rfl ?_
    refine r_l2iN dX0_remainder_44 ?_
    exact r_iret dX0_remainder_45 rfl (by decide) (by decide) V
  · have V := V.2 c
    refine r_iload_n 1 dX0_remainder_15 rfl rfl ?_
    obtain ⟨c, V⟩ := V
    refine r_if_leN (tgt := 43) dX0_remainder_16 (by decide) c (fun c => ?_) (fun c => ?_)
    · have V := V.1 c
      refine r_lload_n 2 dX0_remainder_43 rfl rfl ?_
      refine r_l2iN dX0_remainder_44 ?_
      exact r_iret dX0_remainder_45 rfl (by decide) (by decide) V
    · have V := V.2 c
      refine r_lload_n 2 dX0_remainder_19 rfl rfl ?_
      refine r_ldc2 (v := (lN 1000000000)) wL_X0_23 dX0_remainder_20 ?_
      refine r_lmulN dX0_remainder_23 ?_
      refine r_aload_n 0 dX0_remainder_24 rfl rfl ?_
      obtain ⟨o2, o3, q1, V⟩ := V
      refine r_getf (ci := 1) (kf := 0) (T := TX0) rfl in_X0 (by decide) wF_X0_13 dX0_remainder_25 q1 rfl ?_
      refine r_iload 3 dX0_remainder_28 rfl ?_
      obtain ⟨N5, f6, q4, V⟩ := V
      obtain ⟨e7, V⟩ := V
      obtain ⟨c, cN, V⟩ := V
      refine r_iald dX0_remainder_30 q4 (pk_sub e7) c cN ?_
      show Blk g M_X0_remainder post 31 [(0, .ref x0), (1, .int (nI x1)), (2, .long (lN x2)), (4, .int (nI x4 - nI 1))] [.int (nI (f6 (x4 - 1))), .long (lN (x2 * 1000000000))] h nx 0 0
      obtain ⟨c, V⟩ := V
      refine r_i2lN dX0_remainder_31 c ?_
      refine r_laddN dX0_remainder_32 ?_
      refine r_iload_n 1 dX0_remainder_33 rfl rfl ?_
      obtain ⟨c, V⟩ := V
      refine r_i2lN dX0_remainder_34 c ?_
      obtain ⟨c, V⟩ := V
      refine r_lremN dX0_remainder_35 c ?_
      refine r_lstore_n (L' := [(2, .long (lN (((x2 * 1000000000) + (f6 (x4 - 1))) % x1))), (0, .ref x0), (1, .int (nI x1)), (4, .int (nI x4 - nI 1))]) dX0_remainder_36 rfl (by decide) rfl ?_
      obtain ⟨c, V⟩ := V
      refine r_idecP 3 (L' := [(4, .int (nI (x4 - 1) - nI 1)), (2, .long (lN (((x2 * 1000000000) + (f6 (x4 - 1))) % x1))), (0, .ref x0), (1, .int (nI x1))]) dX0_remainder_37 rfl c (by decide) rfl ?_
      refine r_goto (tgt := 10) dX0_remainder_40 (by decide) ?_
      exact Blk.sub [2, 3, 1, 0] rfl V
set_option maxRecDepth 20000 in
theorem v_X0_divide_0 {g : xG} {post : xPost} {h : xHp} {nx : Nat} {x0 : Nat} {x1 : Nat} (V : (∃ (o2 : Nat) (o3 : Nat), h x0 = some (xo 1 [.ref o2, .int (nI o3)]) ∧ Blk g M_X0_divide post 10 [(0, .ref x0), (1, .int (nI x1)), (2, .long (lN 0)), (4, .int (nI o3 - nI 1))] [] h nx 0 0)) : Blk g M_X0_divide post 0 [(0, .ref x0), (1, .int (nI x1))] [] h nx 0 0 := by
  refine r_lconst (v := (lN 0)) dX0_divide_0 rfl ?_
  refine r_lstore_n (L' := [(2, .long (lN 0)), (0, .ref x0), (1, .int (nI x1))]) dX0_divide_1 rfl (by decide) rfl ?_
  refine r_aload_n 1 dX0_divide_2 rfl rfl ?_
  obtain ⟨o2, o3, q1, V⟩ := V
  refine r_getf (ci := 1) (kf := 1) (T := TX0) rfl in_X0 (by decide) wF_X0_19 dX0_divide_3 q1 rfl ?_
  refine r_iconst (v := (nI 1)) dX0_divide_6 rfl ?_
  refine r_isub dX0_divide_7 ?_
  refine r_istore (L' := [(4, .int (nI o3 - nI 1)), (2, .long (lN 0)), (0, .ref x0), (1, .int (nI x1))]) dX0_divide_8 (by decide) rfl ?_
  exact Blk.sub [2, 3, 1, 0] rfl V
set_option maxRecDepth 20000 in
theorem v_X0_divide_10 {g : xG} {post : xPost} {h : xHp} {nx : Nat} {x0 : Nat} {x1 : Nat} {x2 : Nat} {x4 : Nat} (V : (x4 < 2 ^ 31 ∧ ((x4 = 0 → (∃ (o2 : Nat) (o3 : Nat), h x0 = some (xo 1 [.ref o2, .int (nI o3)]) ∧ (o3 < 2 ^ 31 ∧ ((o3 = 0 → (post none h nx)) ∧ (0 < o3 → (1 ≤ o3 ∧ (∃ (N5 : Nat) (f6 : Nat → Nat), h o2 = some (xna N5 f6) ∧ (o3 - 1) < N5 ∧ N5 < 2 ^ 31 ∧ ((f6 (o3 - 1)) < 2 ^ 31 ∧ ((¬ (f6 (o3 - 1)) = 0 → (post none h nx)) ∧ ((f6 (o3 - 1)) = 0 → (1 ≤ o3 ∧ (post none (xup h x0 (xo 1 [.ref o2, .int (nI (o3 - 1))])) nx)))))))))))) ∧ (0 < x4 → (x1 < 2 ^ 31 ∧ ((x1 = 0 → (∃ (o8 : Nat) (o9 : Nat), h x0 = some (xo 1 [.ref o8, .int (nI o9)]) ∧ (o9 < 2 ^ 31 ∧ ((o9 = 0 → (post none h nx)) ∧ (0 < o9 → (1 ≤ o9 ∧ (∃ (N11 : Nat) (f12 : Nat → Nat), h o8 = some (xna N11 f12) ∧ (o9 - 1) < N11 ∧ N11 < 2 ^ 31 ∧ ((f12 (o9 - 1)) < 2 ^ 31 ∧ ((¬ (f12 (o9 - 1)) = 0 → (post none h nx)) ∧ ((f12 (o9 - 1)) = 0 → (1 ≤ o9 ∧ (post none (xup h x0 (xo 1 [.ref o8, .int (nI (o9 - 1))])) nx)))))))))))) ∧ (0 < x1 → (∃ (o14 : Nat) (o15 : Nat), h x0 = some (xo 1 [.ref o14, .int (nI o15)]) ∧ (∃ (N17 : Nat) (f18 : Nat → Nat), h o14 = some (xna N17 f18) ∧ 1 ≤ x4 ∧ (x4 - 1) < N17 ∧ N17 < 2 ^ 31 ∧ ((f18 (x4 - 1)) < 2 ^ 31 ∧ (x1 < 2 ^ 31 ∧ ((((x2 * 1000000000) + (f18 (x4 - 1))) < 2 ^ 63 ∧ 0 < x1 ∧ x1 < 2 ^ 63) ∧ (1 ≤ x4 ∧ (x4 - 1) < N17 ∧ N17 < 2 ^ 31 ∧ (x1 < 2 ^ 31 ∧ ((((x2 * 1000000000) + (f18 (x4 - 1))) < 2 ^ 63 ∧ 0 < x1 ∧ x1 < 2 ^ 63) ∧ (1 ≤ x4 ∧ Blk g M_X0_divide post 10 [(0, .ref x0), (1, .int (nI x1)), (2, .long (lN (((x2 * 1000000000) + (f18 (x4 - 1))) % x1))), (4, .int (nI (x4 - 1) - nI 1))] [] (xup h o14 (xna N17 (va_up f18 (x4 - 1) (((x2 * 1000000000) + (f18 (x4 - 1))) / x1)))) nx 0 0)))))))))))))))) : Blk g M_X0_divide post 10 [(0, .ref x0), (1, .int (nI x1)), (2, .long (lN x2)), (4, .int (nI x4 - nI 1))] [] h nx 0 0 := by
  refine r_iload 3 dX0_divide_10 rfl ?_
  obtain ⟨c, V⟩ := V
  refine r_if_ltP (tgt := 60) dX0_divide_12 (by decide) c (fun c => ?_) (fun c => ?_)
  · have V := V.1 c
    refine r_aload_n 0 dX0_divide_60 rfl rfl ?_
    obtain ⟨o2, o3, q1, V⟩ := V
    refine r_getf (ci := 1) (kf := 1) (T := TX0) rfl in_X0 (by decide) wF_X0_19 dX0_divide_61 q1 rfl ?_
    obtain ⟨c, V⟩ := V
    refine r_if_leN (tgt := 91) dX0_divide_64 (by decide) c (fun c => ?_) (fun c => ?_)
    · have V := V.1 c
      exact r_vret dX0_divide_91 rfl (by decide) (by decide) V
    · have V := V.2 c
      refine r_aload_n 0 dX0_divide_67 rfl rfl ?_
      refine r_getf (ci := 1) (kf := 0) (T := TX0) rfl in_X0 (by decide) wF_X0_13 dX0_divide_68 q1 rfl ?_
      refine r_aload_n 0 dX0_divide_71 rfl rfl ?_
      refine r_getf (ci := 1) (kf := 1) (T := TX0) rfl in_X0 (by decide) wF_X0_19 dX0_divide_72 q1 rfl ?_
      refine r_iconst (v := (nI 1)) dX0_divide_75 rfl ?_
      obtain ⟨c, V⟩ := V
      refine r_isubN dX0_divide_76 c ?_
      obtain ⟨N5, f6, q4, V⟩ := V
      obtain ⟨c, cN, V⟩ := V
      refine r_iald dX0_divide_77 q4 rfl c cN ?_
      show Blk g M_X0_divide post 78 [(0, .ref x0), (1, .int (nI x1)), (2, .long (lN x2)), (4, .int (nI x4 - nI 1))] [.int (nI (f6 (o3 - 1)))] h nx 0 0
      obtain ⟨c, V⟩ := V
      refine r_if_neN (tgt := 91) dX0_divide_78 (by decide) c (fun c => ?_) (fun c => ?_)
      · have V := V.1 c
        exact r_vret dX0_divide_91 rfl (by decide) (by decide) V
      · have V := V.2 c
        refine r_aload_n 0 dX0_divide_81 rfl rfl ?_
        refine r_dup dX0_divide_82 rfl ?_
        refine r_getf (ci := 1) (kf := 1) (T := TX0) rfl in_X0 (by decide) wF_X0_19 dX0_divide_83 q1 rfl ?_
        refine r_iconst (v := (nI 1)) dX0_divide_86 rfl ?_
        obtain ⟨c, V⟩ := V
        refine r_isubN dX0_divide_87 c ?_
        refine r_putf (ci := 1) (kf := 1) (T := TX0) rfl in_X0 tyX0_ok nmX0 (by decide) wF_X0_19 rfl (tyX0_ok 1 (by decide)) dX0_divide_88 q1 (Nat.le_of_ble_eq_true rfl) rfl rfl ?_
        show Blk g M_X0_divide post 91 [(0, .ref x0), (1, .int (nI x1)), (2, .long (lN x2)), (4, .int (nI x4 - nI 1))] [] (xup h x0 (xo 1 [.ref o2, .int (nI (o3 - 1))])) nx 0 0
        exact r_vret dX0_divide_91 rfl (by decide) (by decide) V
  · have V := V.2 c
    refine r_iload_n 1 dX0_divide_15 rfl rfl ?_
    obtain ⟨c, V⟩ := V
    refine r_if_leN (tgt := 60) dX0_divide_16 (by decide) c (fun c => ?_) (fun c => ?_)
    · have V := V.1 c
      refine r_aload_n 0 dX0_divide_60 rfl rfl ?_
      obtain ⟨o8, o9, q7, V⟩ := V
      refine r_getf (ci := 1) (kf := 1) (T := TX0) rfl in_X0 (by decide) wF_X0_19 dX0_divide_61 q7 rfl ?_
      obtain ⟨c, V⟩ := V
      refine r_if_leN (tgt := 91) dX0_divide_64 (by decide) c (fun c => ?_) (fun c => ?_)
      · have V := V.1 c
        exact r_vret dX0_divide_91 rfl (by decide) (by decide) V
      · have V := V.2 c
        refine r_aload_n 0 dX0_divide_67 rfl rfl ?_
        refine r_getf (ci := 1) (kf := 0) (T := TX0) rfl in_X0 (by decide) wF_X0_13 dX0_divide_68 q7 rfl ?_
        refine r_aload_n 0 dX0_divide_71 rfl rfl ?_
        refine r_getf (ci := 1) (kf := 1) (T := TX0) rfl in_X0 (by decide) wF_X0_19 dX0_divide_72 q7 rfl ?_
        refine r_iconst (v := (nI 1)) dX0_divide_75 rfl ?_
        obtain ⟨c, V⟩ := V
        refine r_isubN dX0_divide_76 c ?_
        obtain ⟨N11, f12, q10, V⟩ := V
        obtain ⟨c, cN, V⟩ := V
        refine r_iald dX0_divide_77 q10 rfl c cN ?_
        show Blk g M_X0_divide post 78 [(0, .ref x0), (1, .int (nI x1)), (2, .long (lN x2)), (4, .int (nI x4 - nI 1))] [.int (nI (f12 (o9 - 1)))] h nx 0 0
        obtain ⟨c, V⟩ := V
        refine r_if_neN (tgt := 91) dX0_divide_78 (by decide) c (fun c => ?_) (fun c => ?_)
        · have V := V.1 c
          exact r_vret dX0_divide_91 rfl (by decide) (by decide) V
        · have V := V.2 c
          refine r_aload_n 0 dX0_divide_81 rfl rfl ?_
          refine r_dup dX0_divide_82 rfl ?_
          refine r_getf (ci := 1) (kf := 1) (T := TX0) rfl in_X0 (by decide) wF_X0_19 dX0_divide_83 q7 rfl ?_
          refine r_iconst (v := (nI 1)) dX0_divide_86 rfl ?_
          obtain ⟨c, V⟩ := V
          refine r_isubN dX0_divide_87 c ?_
          refine r_putf (ci := 1) (kf := 1) (T := TX0) rfl in_X0 tyX0_ok nmX0 (by decide) wF_X0_19 rfl (tyX0_ok 1 (by decide)) dX0_divide_88 q7 (Nat.le_of_ble_eq_true rfl) rfl rfl ?_
          show Blk g M_X0_divide post 91 [(0, .ref x0), (1, .int (nI x1)), (2, .long (lN x2)), (4, .int (nI x4 - nI 1))] [] (xup h x0 (xo 1 [.ref o8, .int (nI (o9 - 1))])) nx 0 0
          exact r_vret dX0_divide_91 rfl (by decide) (by decide) V
    · have V := V.2 c
      refine r_lload_n 2 dX0_divide_19 rfl rfl ?_
      refine r_ldc2 (v := (lN 1000000000)) wL_X0_23 dX0_divide_20 ?_
      refine r_lmulN dX0_divide_23 ?_
      refine r_aload_n 0 dX0_divide_24 rfl rfl ?_
      obtain ⟨o14, o15, q13, V⟩ := V
      refine r_getf (ci := 1) (kf := 0) (T := TX0) rfl in_X0 (by decide) wF_X0_13 dX0_divide_25 q13 rfl ?_
      refine r_iload 3 dX0_divide_28 rfl ?_
      obtain ⟨N17, f18, q16, V⟩ := V
      obtain ⟨e19, V⟩ := V
      obtain ⟨c, cN, V⟩ := V
      refine r_iald dX0_divide_30 q16 (pk_sub e19) c cN ?_
      show Blk g M_X0_divide post 31 [(0, .ref x0), (1, .int (nI x1)), (2, .long (lN x2)), (4, .int (nI x4 - nI 1))] [.int (nI (f18 (x4 - 1))), .long (lN (x2 * 1000000000))] h nx 0 0
      obtain ⟨c, V⟩ := V
      refine r_i2lN dX0_divide_31 c ?_
      refine r_laddN dX0_divide_32 ?_
      refine r_lstore (L' := [(5, .long (lN ((x2 * 1000000000) + (f18 (x4 - 1))))), (0, .ref x0), (1, .int (nI x1)), (2, .long (lN x2)), (4, .int (nI x4 - nI 1))]) dX0_divide_33 (by decide) rfl ?_
      refine r_aload_n 1 dX0_divide_35 rfl rfl ?_
      refine r_getf (ci := 1) (kf := 0) (T := TX0) rfl in_X0 (by decide) wF_X0_13 dX0_divide_36 q13 rfl ?_
      refine r_iload 4 dX0_divide_39 rfl ?_
      refine r_lload 0 dX0_divide_41 rfl ?_
      refine r_iload_n 2 dX0_divide_43 rfl rfl ?_
      obtain ⟨c, V⟩ := V
      refine r_i2lN dX0_divide_44 c ?_
      obtain ⟨c, V⟩ := V
      refine r_ldivN dX0_divide_45 c ?_
      refine r_l2iN dX0_divide_46 ?_
      obtain ⟨e20, V⟩ := V
      obtain ⟨c, cN, V⟩ := V
      refine r_iastH dX0_divide_47 q16 (pk_sub e20) c cN ?_
      show Blk g M_X0_divide post 48 [(5, .long (lN ((x2 * 1000000000) + (f18 (x4 - 1))))), (0, .ref x0), (1, .int (nI x1)), (2, .long (lN x2)), (4, .int (nI x4 - nI 1))] [] (xup h o14 (xna N17 (va_up f18 (x4 - 1) (((x2 * 1000000000) + (f18 (x4 - 1))) / x1)))) nx 0 0
      refine r_lload 0 dX0_divide_48 rfl ?_
      refine r_iload_n 2 dX0_divide_50 rfl rfl ?_
      obtain ⟨c, V⟩ := V
      refine r_i2lN dX0_divide_51 c ?_
      obtain ⟨c, V⟩ := V
      refine r_lremN dX0_divide_52 c ?_
      refine r_lstore_n (L' := [(2, .long (lN (((x2 * 1000000000) + (f18 (x4 - 1))) % x1))), (5, .long (lN ((x2 * 1000000000) + (f18 (x4 - 1))))), (0, .ref x0), (1, .int (nI x1)), (4, .int (nI x4 - nI 1))]) dX0_divide_53 rfl (by decide) rfl ?_
      obtain ⟨c, V⟩ := V
      refine r_idecP 4 (L' := [(4, .int (nI (x4 - 1) - nI 1)), (2, .long (lN (((x2 * 1000000000) + (f18 (x4 - 1))) % x1))), (5, .long (lN ((x2 * 1000000000) + (f18 (x4 - 1))))), (0, .ref x0), (1, .int (nI x1))]) dX0_divide_54 rfl c (by decide) rfl ?_
      refine r_goto (tgt := 10) dX0_divide_57 (by decide) ?_
      exact Blk.sub [3, 4, 1, 0] rfl V
set_option maxRecDepth 20000 in
theorem v_X0_compareWith_0 {g : xG} {post : xPost} {h : xHp} {nx : Nat} {x0 : Nat} {x1 : Nat} (V : (∃ (o2 : Nat) (o3 : Nat), h x0 = some (xo 1 [.ref o2, .int (nI o3)]) ∧ (∃ (o5 : Nat) (o6 : Nat), h x1 = some (xo 1 [.ref o5, .int (nI o6)]) ∧ ((o3 < 2 ^ 31 ∧ o6 < 2 ^ 31) ∧ ((o3 = o6 → Blk g M_X0_compareWith post 35 [(0, .ref x0), (1, .ref x1), (2, .int (nI o3 - nI 1))] [] h nx 0 0) ∧ (¬ o3 = o6 → ((o3 < 2 ^ 31 ∧ o6 < 2 ^ 31) ∧ ((o6 ≤ o3 → (post (some (.int (nI 1))) h nx)) ∧ (o3 < o6 → (post (some (.int (-1))) h nx)))))))))) : Blk g M_X0_compareWith post 0 [(0, .ref x0), (1, .ref x1)] [] h nx 0 0 := by
  refine r_aload_n 0 dX0_compareWith_0 rfl rfl ?_
  obtain ⟨o2, o3, q1, V⟩ := V
  refine r_getf (ci := 1) (kf := 1) (T := TX0) rfl in_X0 (by decide) wF_X0_19 dX0_compareWith_1 q1 rfl ?_
  refine r_aload_n 1 dX0_compareWith_4 rfl rfl ?_
  obtain ⟨o5, o6, q4, V⟩ := V
  refine r_getf (ci := 1) (kf := 1) (T := TX0) rfl in_X0 (by decide) wF_X0_19 dX0_compareWith_5 q4 rfl ?_
  obtain ⟨c, V⟩ := V
  refine r_icmp_eqN (tgt := 28) dX0_compareWith_8 (by decide) c (fun c => ?_) (fun c => ?_)
  · have V := V.1 c
    refine r_aload_n 0 dX0_compareWith_28 rfl rfl ?_
    refine r_getf (ci := 1) (kf := 1) (T := TX0) rfl in_X0 (by decide) wF_X0_19 dX0_compareWith_29 q1 rfl ?_
    refine r_iconst (v := (nI 1)) dX0_compareWith_32 rfl ?_
    refine r_isub dX0_compareWith_33 ?_
    refine r_istore_n (L' := [(2, .int (nI o3 - nI 1)), (0, .ref x0), (1, .ref x1)]) dX0_compareWith_34 rfl (by decide) rfl ?_
    exact Blk.sub [1, 2, 0] rfl V
  · have V := V.2 c
    refine r_aload_n 0 dX0_compareWith_11 rfl rfl ?_
    refine r_getf (ci := 1) (kf := 1) (T := TX0) rfl in_X0 (by decide) wF_X0_19 dX0_compareWith_12 q1 rfl ?_
    refine r_aload_n 1 dX0_compareWith_15 rfl rfl ?_
    refine r_getf (ci := 1) (kf := 1) (T := TX0) rfl in_X0 (by decide) wF_X0_19 dX0_compareWith_16 q4 rfl ?_
    obtain ⟨c, V⟩ := V
    refine r_icmp_geN (tgt := 26) dX0_compareWith_19 (by decide) c (fun c => ?_) (fun c => ?_)
    · have V := V.1 c
      refine r_iconst (v := (nI 1)) dX0_compareWith_26 rfl ?_
      exact r_iret dX0_compareWith_27 rfl (by decide) (by decide) V
    · have V := V.2 c
      refine r_iconst (v := (-1)) dX0_compareWith_22 rfl ?_
      refine r_goto (tgt := 27) dX0_compareWith_23 (by decide) ?_
      exact r_iret dX0_compareWith_27 rfl (by decide) (by decide) V
set_option maxRecDepth 20000 in
theorem v_X0_compareWith_35 {g : xG} {post : xPost} {h : xHp} {nx : Nat} {x0 : Nat} {x1 : Nat} {x2 : Nat} (V : (x2 < 2 ^ 31 ∧ ((x2 = 0 → (post (some (.int (nI 0))) h nx)) ∧ (0 < x2 → (∃ (o2 : Nat) (o3 : Nat), h x0 = some (xo 1 [.ref o2, .int (nI o3)]) ∧ (∃ (N5 : Nat) (f6 : Nat → Nat), h o2 = some (xna N5 f6) ∧ 1 ≤ x2 ∧ (x2 - 1) < N5 ∧ N5 < 2 ^ 31 ∧ (∃ (o11 : Nat) (o12 : Nat), h x1 = some (xo 1 [.ref o11, .int (nI o12)]) ∧ Ct g M_X0_nine [.ref x1, .int (nI x2 - nI 1)] h nx (fun r h8 n9 => ∃ v13 : Nat, r = some (.int (nI v13)) ∧ (((f6 (x2 - 1)) < 2 ^ 31 ∧ v13 < 2 ^ 31) ∧ (((f6 (x2 - 1)) = v13 → (1 ≤ x2 ∧ Blk g M_X0_compareWith post 35 [(0, .ref x0), (1, .ref x1), (2, .int (nI (x2 - 1) - nI 1))] [] h8 n9 0 0)) ∧ (¬ (f6 (x2 - 1)) = v13 → (∃ (o15 : Nat) (o16 : Nat), h8 x0 = some (xo 1 [.ref o15, .int (nI o16)]) ∧ (∃ (N18 : Nat) (f19 : Nat → Nat), h8 o15 = some (xna N18 f19) ∧ 1 ≤ x2 ∧ (x2 - 1) < N18 ∧ N18 < 2 ^ 31 ∧ (∃ (o24 : Nat) (o25 : Nat), h8 x1 = some (xo 1 [.ref o24, .int (nI o25)]) ∧ Ct g M_X0_nine [.ref x1, .int (nI x2 - nI 1)] h8 n9 (fun r h21 n22 => ∃ v26 : Nat, r = some (.int (nI v26)) ∧ (((f19 (x2 - 1)) < 2 ^ 31 ∧ v26 < 2 ^ 31) ∧ ((v26 ≤ (f19 (x2 - 1)) → (post (some (.int (nI 1))) h21 n22)) ∧ ((f19 (x2 - 1)) < v26 → (post (some (.int (-1))) h21 n22))))))))))))))))))) : Blk g M_X0_compareWith post 35 [(0, .ref x0), (1, .ref x1), (2, .int (nI x2 - nI 1))] [] h nx 0 0 := by
  refine r_iload_n 2 dX0_compareWith_35 rfl rfl ?_
  obtain ⟨c, V⟩ := V
  refine r_if_ltP (tgt := 79) dX0_compareWith_36 (by decide) c (fun c => ?_) (fun c => ?_)
  · have V := V.1 c
    refine r_iconst (v := (nI 0)) dX0_compareWith_79 rfl ?_
    exact r_iret dX0_compareWith_80 rfl (by decide) (by decide) V
  · have V := V.2 c
    refine r_aload_n 0 dX0_compareWith_39 rfl rfl ?_
    obtain ⟨o2, o3, q1, V⟩ := V
    refine r_getf (ci := 1) (kf := 0) (T := TX0) rfl in_X0 (by decide) wF_X0_13 dX0_compareWith_40 q1 rfl ?_
    refine r_iload_n 2 dX0_compareWith_43 rfl rfl ?_
    obtain ⟨N5, f6, q4, V⟩ := V
    obtain ⟨e7, V⟩ := V
    obtain ⟨c, cN, V⟩ := V
    refine r_iald dX0_compareWith_44 q4 (pk_sub e7) c cN ?_
    show Blk g M_X0_compareWith post 45 [(0, .ref x0), (1, .ref x1), (2, .int (nI x2 - nI 1))] [.int (nI (f6 (x2 - 1)))] h nx 0 0
    refine r_aload_n 1 dX0_compareWith_45 rfl rfl ?_
    refine r_iload_n 2 dX0_compareWith_46 rfl rfl ?_
    obtain ⟨o11, o12, q10, V⟩ := V
    refine r_callV (M2 := M_X0_nine) (ci := 1) (n := 1) (As := [.int (nI x2 - nI 1)]) rfl (wl5 wM_X0_34 wi_X0_nine wS_X0_nine wI_StateShares_Big wc_X0_nine) (by decide +kernel) (by decide) rfl rfl (Nat.le_of_ble_eq_true rfl) dX0_compareWith_47 q10 (by decide) (by decide) (Ct.imp V (fun r h8 n9 V => ?_))
    obtain ⟨v13, rfl, V⟩ := V
    show Blk g M_X0_compareWith post 50 [(0, .ref x0), (1, .ref x1), (2, .int (nI x2 - nI 1))] [.int (nI v13), .int (nI (f6 (x2 - 1)))] h8 n9 0 0
    obtain ⟨c, V⟩ := V
    refine r_icmp_eqN (tgt := 73) dX0_compareWith_50 (by decide) c (fun c => ?_) (fun c => ?_)
    · have V := V.1 c
      obtain ⟨c, V⟩ := V
      refine r_idecP 2 (L' := [(2, .int (nI (x2 - 1) - nI 1)), (0, .ref x0), (1, .ref x1)]) dX0_compareWith_73 rfl c (by decide) rfl ?_
      refine r_goto (tgt := 35) dX0_compareWith_76 (by decide) ?_
      exact Blk.sub [1, 2, 0] rfl V
    · have V := V.2 c
      refine r_aload_n 0 dX0_compareWith_53 rfl rfl ?_
      obtain ⟨o15, o16, q14, V⟩ := V
      refine r_getf (ci := 1) (kf := 0) (T := TX0) rfl in_X0 (by decide) wF_X0_13 dX0_compareWith_54 q14 rfl ?_
      refine r_iload_n 2 dX0_compareWith_57 rfl rfl ?_
      obtain ⟨N18, f19, q17, V⟩ := V
      obtain ⟨e20, V⟩ := V
      obtain ⟨c, cN, V⟩ := V
      refine r_iald dX0_compareWith_58 q17 (pk_sub e20) c cN ?_
      show Blk g M_X0_compareWith post 59 [(0, .ref x0), (1, .ref x1), (2, .int (nI x2 - nI 1))] [.int (nI (f19 (x2 - 1)))] h8 n9 0 0
      refine r_aload_n 1 dX0_compareWith_59 rfl rfl ?_
      refine r_iload_n 2 dX0_compareWith_60 rfl rfl ?_
      obtain ⟨o24, o25, q23, V⟩ := V
      refine r_callV (M2 := M_X0_nine) (ci := 1) (n := 1) (As := [.int (nI x2 - nI 1)]) rfl (wl5 wM_X0_34 wi_X0_nine wS_X0_nine wI_StateShares_Big wc_X0_nine) (by decide +kernel) (by decide) rfl rfl (Nat.le_of_ble_eq_true rfl) dX0_compareWith_61 q23 (by decide) (by decide) (Ct.imp V (fun r h21 n22 V => ?_))
      obtain ⟨v26, rfl, V⟩ := V
      show Blk g M_X0_compareWith post 64 [(0, .ref x0), (1, .ref x1), (2, .int (nI x2 - nI 1))] [.int (nI v26), .int (nI (f19 (x2 - 1)))] h21 n22 0 0
      obtain ⟨c, V⟩ := V
      refine r_icmp_geN (tgt := 71) dX0_compareWith_64 (by decide) c (fun c => ?_) (fun c => ?_)
      · have V := V.1 c
        refine r_iconst (v := (nI 1)) dX0_compareWith_71 rfl ?_
        exact r_iret dX0_compareWith_72 rfl (by decide) (by decide) V
      · have V := V.2 c
        refine r_iconst (v := (-1)) dX0_compareWith_67 rfl ?_
        refine r_goto (tgt := 72) dX0_compareWith_68 (by decide) ?_
        exact r_iret dX0_compareWith_72 rfl (by decide) (by decide) V
