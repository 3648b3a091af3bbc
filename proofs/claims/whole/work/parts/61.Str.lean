/-! String.length, String.charAt on the texts of the class; Rules.wordIs -/
def bN (j i : Nat) : Nat := ((xByt.getD j []).getD i 0).toNatClampNeg
theorem bN_tab : ∀ j, j < 11 → ∀ i, i < 13 → i < xLen.getD j 0 → (xByt.getD j []).getD i 0 = nI (bN j i) ∧ bN j i < 128 := by decide +kernel
theorem xLen_le : ∀ j, j < 11 → xLen.getD j 0 ≤ 13 := by decide +kernel
section RS2
variable {g : xG} {M : xM} {post : xPost} {pc : Nat} {L : List (Nat × Value)} {st : List Value} {h : xHp} {nx cu su : Nat}
theorem r_getSv {j idx : Nat} (hj : j < 11) (ho : (xm_y M).cls = "java/lang/String") (hl : Cond.fieldLink "java/lang/String" idx "java/lang/String" "value" "[B" ∈ lw_gd) (hd : decode (xm_c M) pc = .ok (.getfield idx, 3)) (k : Blk g M post (pc + 3) L (.ref (gY g j) :: st) h nx cu su) : Blk g M post pc L (.ref (gS g j) :: st) h nx cu su :=
  fun p e s m args below meth c C H locs ls hH hS hL => vk_getf C.1 C.2.1 (C.F.2.2.1.1 j hj).2.2.1 hS (ho ▸ C.own) (C.W _ hl) (fun _ q => q) hd (k p e s m args below meth c C H locs ls hH hS hL)
theorem r_getSc {j idx : Nat} (hj : j < 11) (ho : (xm_y M).cls = "java/lang/String") (hl : Cond.fieldLink "java/lang/String" idx "java/lang/String" "coder" "B" ∈ lw_gd) (hd : decode (xm_c M) pc = .ok (.getfield idx, 3)) (k : Blk g M post (pc + 3) L (.int (nI 0) :: st) h nx cu su) : Blk g M post pc L (.ref (gS g j) :: st) h nx cu su :=
  fun p e s m args below meth c C H locs ls hH hS hL => vk_getf C.1 C.2.1 (C.F.2.2.1.1 j hj).2.1 hS (ho ▸ C.own) (C.W _ hl) (fun _ q => q) hd (k p e s m args below meth c C H locs ls hH hS hL)
theorem r_gsC {idx : Nat} (ho : (xm_y M).cls = "java/lang/String") (hl : Cond.fieldLink "java/lang/String" idx "java/lang/String" "COMPACT_STRINGS" "Z" ∈ lw_gd) (hd : decode (xm_c M) pc = .ok (.getstatic idx, 3)) (k : Blk g M post (pc + 3) L (.int (nI 1) :: st) h nx cu su) : Blk g M post pc L st h nx cu su :=
  fun p e s m args below meth c C H locs ls hH hS hL => va_gets C.1 C.2.1 C.F.2.2.2.1 hS (ho ▸ C.own) (C.W _ hl) (fun _ q => q) hd (k p e s m args below meth c C H locs ls hH hS hL)
theorem r_gsF {idx : Nat} (ho : (xm_y M).cls = "java/lang/String") (hl : Cond.fieldLink "java/lang/String" idx "jdk/internal/util/Preconditions" "SIOOBE_FORMATTER" "Ljava/util/function/BiFunction;" ∈ lw_gd) (hd : decode (xm_c M) pc = .ok (.getstatic idx, 3)) (k0 : Blk g M post (pc + 3) L (.null :: st) h nx cu su) (k : ∀ t, Blk g M post (pc + 3) L (.ref t :: st) h nx cu su) : Blk g M post pc L st h nx cu su :=
  fun p e s m args below meth c C H locs ls hH hS hL => by
    rcases C.F.2.2.2.2.2.2 with z | ⟨t, z⟩
    · exact va_gets C.1 C.2.1 z hS (ho ▸ C.own) (C.W _ hl) (fun _ q => q) hd (k0 p e s m args below meth c C H locs ls hH hS hL)
    · exact va_gets C.1 C.2.1 z hS (ho ▸ C.own) (C.W _ hl) (fun _ q => q) hd (k _ p e s m args below meth c C H locs ls hH hS hL)
theorem r_alenS {j : Nat} (hj : j < 11) (hd : decode (xm_c M) pc = .ok (.arraylength, 1)) (k : Blk g M post (pc + 1) L (.int (nI (xLen.getD j 0)) :: st) h nx cu su) : Blk g M post pc L (.ref (gY g j) :: st) h nx cu su :=
  fun p e s m args below meth c C H locs ls hH hS hL => va_tlen C.1 C.2.1 (C.F.2.2.1.1 j hj).2.2.2 hS rfl hd (k p e s m args below meth c C H locs ls hH hS hL)
theorem r_baldS {j n : Nat} {i : Int32} (hj : j < 11) (hd : decode (xm_c M) pc = .ok (.baload, 1)) (hi : i = nI n) (hn : n < xLen.getD j 0) (k : Blk g M post (pc + 1) L (.int (nI (bN j n)) :: st) h nx cu su) : Blk g M post pc L (.int i :: .ref (gY g j) :: st) h nx cu su :=
  fun p e s m args below meth c C H locs ls hH hS hL => by
    have hle := xLen_le j hj
    have hb := bN_tab j hj n (by omega) hn
    refine va_tb C.1 C.2.1 (C.F.2.2.1.1 j hj).2.2.2 hS (xin hi hn (by omega)).1 (v := .int (nI (bN j n))) ?_ hd (k p e s m args below meth c C H locs ls hH hS hL)
    rw [(xin hi hn (by omega)).2, hb.1]
theorem r_callVS {M2 : xM} {j idx n : Nat} {As st0 : List Value} (hj : j < 11) (hy : (xm_y M2).cls = "java/lang/String") (hw : ∀ w ∈ [Cond.methodLink (xm_y M).cls idx (xm_y M2), .instanceMethod (xm_y M2), .selects (xm_y M2).cls (xm_y M2) (xm_y M2), .initialized (xm_y M2).cls, xcode M2], w ∈ lw_gd) (hh : xhand M2 n) (hR : xroom M M2) (hn : As.length = n) (hst : st0 = As.reverse ++ .ref (gS g j) :: st) (h8 : (st.map fun v => v.category).sum ≤ 8) (hd : decode (xm_c M) pc = .ok (.invokevirtual idx, 3)) (hcu : cu + (xm_r M2).cells ≤ (xm_r M).cells) (hsu : su + (xm_r M2).slots ≤ (xm_r M).slots)
    (k : Ct g M2 (.ref (gS g j) :: As) h nx (fun r h' nx' => Blk g M post (pc + 3) L (r.toList ++ st) h' nx' (cu + (xm_r M2).cells) (su + (xm_r M2).slots))) : Blk g M post pc L st0 h nx cu su := by
  intro p e s m args below meth c C H locs ls hH hS hL
  subst hst
  have hG : GoodIn lw_gd (wsV (xm_y M).cls idx (xm_y M2).cls (xm_y M2) (xcode M2 :: lw_gd)) := lw_gd_good fun w hq => by
    unfold wsV at hq
    rcases List.mem_append.mp hq with q | q
    · exact hw w (by simp at q ⊢; rcases q with q | q | q | q <;> simp [q])
    · rcases List.mem_cons.mp q with q | q
      · subst q; exact hw _ (by simp)
      · exact q
  refine xcall (L' := L) (va_runV (As := As) (rest := st) ⟨C.1, C.2.1, C.2.2.1, C.own, C.W⟩ k (cwV n C.W hG rfl rfl rfl ⟨rfl, hh⟩ hR) ⟨xW_blind, by rw [hy]; exact vk_recv C.F.2.2.1 hj hS, xW_pre C hH hS⟩ rfl hn hL.1 rfl (lv_room h8) hd ⟨hcu, hsu⟩) hS ?_
  intro r h' nx' H1 locs1 hp hh1 hS1
  exact hp p e s m args below meth c C H1 locs1 ls hh1 hS1 hL
end RS2
set_option maxRecDepth 20000 in
theorem wF_J0_38 : Cond.fieldLink "java/lang/String" 38 "java/lang/String" "COMPACT_STRINGS" "Z" ∈ lw_gd := lw_in 381 (by decide +kernel) rfl
set_option maxRecDepth 20000 in
theorem wF_J0_15 : Cond.fieldLink "java/lang/String" 15 "java/lang/String" "coder" "B" ∈ lw_gd := lw_in 1422 (by decide +kernel) rfl
set_option maxRecDepth 20000 in
theorem wF_J0_9 : Cond.fieldLink "java/lang/String" 9 "java/lang/String" "value" "[B" ∈ lw_gd := lw_in 1421 (by decide +kernel) rfl
set_option maxRecDepth 20000 in
theorem wM_J0_335 : Cond.methodLink "java/lang/String" 335 (yJ0_coder_7d493) ∈ lw_gd := lw_in 377 (by decide +kernel) rfl
set_option maxRecDepth 20000 in
theorem wi_J0_coder_7d493 : Cond.instanceMethod (yJ0_coder_7d493) ∈ lw_gd := lw_in 378 (by decide +kernel) rfl
set_option maxRecDepth 20000 in
theorem wS_J0_coder_7d493 : Cond.selects "java/lang/String" (yJ0_coder_7d493) (yJ0_coder_7d493) ∈ lw_gd := lw_in 379 (by decide +kernel) rfl
set_option maxRecDepth 20000 in
theorem wI_java_lang_String : Cond.initialized "java/lang/String" ∈ lw_gd := lw_in 18 (by decide +kernel) rfl
set_option maxRecDepth 20000 in
theorem wc_J0_coder_7d493 : Cond.code yJ0_coder_7d493 cJ0_coder_7d493 1 (some .byte) ∈ lw_gd := lw_in 380 (by decide +kernel) rfl
set_option maxRecDepth 20000 in
theorem wF_J0_1053 : Cond.fieldLink "java/lang/String" 1053 "jdk/internal/util/Preconditions" "SIOOBE_FORMATTER" "Ljava/util/function/BiFunction;" ∈ lw_gd := lw_in 397 (by decide +kernel) rfl
set_option maxRecDepth 20000 in
theorem wM_J0_1059 : Cond.methodLink "java/lang/String" 1059 (yJ3_checkIndex_8e157) ∈ lw_gd := lw_in 399 (by decide +kernel) rfl
set_option maxRecDepth 20000 in
theorem ws_J3_checkIndex_8e157 : Cond.static (yJ3_checkIndex_8e157) ∈ lw_gd := lw_in 400 (by decide +kernel) rfl
set_option maxRecDepth 20000 in
theorem wI_jdk_internal_util_Preconditions : Cond.initialized "jdk/internal/util/Preconditions" ∈ lw_gd := lw_in 20 (by decide +kernel) rfl
set_option maxRecDepth 20000 in
theorem wc_J3_checkIndex_8e157 : Cond.code yJ3_checkIndex_8e157 cJ3_checkIndex_8e157 3 (some .int) ∈ lw_gd := lw_in 401 (by decide +kernel) rfl
set_option maxRecDepth 20000 in
theorem wM_J1_9 : Cond.methodLink "java/lang/StringLatin1" 9 (yJ0_checkIndex_df160) ∈ lw_gd := lw_in 394 (by decide +kernel) rfl
set_option maxRecDepth 20000 in
theorem ws_J0_checkIndex_df160 : Cond.static (yJ0_checkIndex_df160) ∈ lw_gd := lw_in 395 (by decide +kernel) rfl
set_option maxRecDepth 20000 in
theorem wc_J0_checkIndex_df160 : Cond.code yJ0_checkIndex_df160 cJ0_checkIndex_df160 2 none ∈ lw_gd := lw_in 396 (by decide +kernel) rfl
set_option maxRecDepth 20000 in
theorem wM_J0_492 : Cond.methodLink "java/lang/String" 492 (yJ0_isLatin1_aae02) ∈ lw_gd := lw_in 387 (by decide +kernel) rfl
set_option maxRecDepth 20000 in
theorem wi_J0_isLatin1_aae02 : Cond.instanceMethod (yJ0_isLatin1_aae02) ∈ lw_gd := lw_in 388 (by decide +kernel) rfl
set_option maxRecDepth 20000 in
theorem wS_J0_isLatin1_aae02 : Cond.selects "java/lang/String" (yJ0_isLatin1_aae02) (yJ0_isLatin1_aae02) ∈ lw_gd := lw_in 389 (by decide +kernel) rfl
set_option maxRecDepth 20000 in
theorem wc_J0_isLatin1_aae02 : Cond.code yJ0_isLatin1_aae02 cJ0_isLatin1_aae02 1 (some .boolean) ∈ lw_gd := lw_in 390 (by decide +kernel) rfl
set_option maxRecDepth 20000 in
theorem wM_J0_495 : Cond.methodLink "java/lang/String" 495 (yJ1_charAt_3b067) ∈ lw_gd := lw_in 391 (by decide +kernel) rfl
set_option maxRecDepth 20000 in
theorem ws_J1_charAt_3b067 : Cond.static (yJ1_charAt_3b067) ∈ lw_gd := lw_in 392 (by decide +kernel) rfl
set_option maxRecDepth 20000 in
theorem wI_java_lang_StringLatin1 : Cond.initialized "java/lang/StringLatin1" ∈ lw_gd := lw_in 19 (by decide +kernel) rfl
set_option maxRecDepth 20000 in
theorem wc_J1_charAt_3b067 : Cond.code yJ1_charAt_3b067 cJ1_charAt_3b067 2 (some .char) ∈ lw_gd := lw_in 393 (by decide +kernel) rfl
set_option maxRecDepth 20000 in
theorem wM_X7_119 : Cond.methodLink "StateShares$Rules" 119 (yJ0_length_8abf5) ∈ lw_gd := lw_in 373 (by decide +kernel) rfl
set_option maxRecDepth 20000 in
theorem wi_J0_length_8abf5 : Cond.instanceMethod (yJ0_length_8abf5) ∈ lw_gd := lw_in 374 (by decide +kernel) rfl
set_option maxRecDepth 20000 in
theorem wS_J0_length_8abf5 : Cond.selects "java/lang/String" (yJ0_length_8abf5) (yJ0_length_8abf5) ∈ lw_gd := lw_in 375 (by decide +kernel) rfl
set_option maxRecDepth 20000 in
theorem wc_J0_length_8abf5 : Cond.code yJ0_length_8abf5 cJ0_length_8abf5 1 (some .int) ∈ lw_gd := lw_in 376 (by decide +kernel) rfl
set_option maxRecDepth 20000 in
theorem wM_X7_123 : Cond.methodLink "StateShares$Rules" 123 (yJ0_charAt_5068e) ∈ lw_gd := lw_in 383 (by decide +kernel) rfl
set_option maxRecDepth 20000 in
theorem wi_J0_charAt_5068e : Cond.instanceMethod (yJ0_charAt_5068e) ∈ lw_gd := lw_in 384 (by decide +kernel) rfl
set_option maxRecDepth 20000 in
theorem wS_J0_charAt_5068e : Cond.selects "java/lang/String" (yJ0_charAt_5068e) (yJ0_charAt_5068e) ∈ lw_gd := lw_in 385 (by decide +kernel) rfl
set_option maxRecDepth 20000 in
theorem wc_J0_charAt_5068e : Cond.code yJ0_charAt_5068e cJ0_charAt_5068e 2 (some .char) ∈ lw_gd := lw_in 386 (by decide +kernel) rfl
abbrev M_J0_charAt_5068e : xM := (yJ0_charAt_5068e, cJ0_charAt_5068e, 2, (some .char), { frames := 3, cells := 0, slots := 0, locals := 64 })
abbrev M_J0_checkIndex_df160 : xM := (yJ0_checkIndex_df160, cJ0_checkIndex_df160, 2, none, { frames := 1, cells := 0, slots := 0, locals := 22 })
abbrev M_J0_coder_7d493 : xM := (yJ0_coder_7d493, cJ0_coder_7d493, 1, (some .byte), { frames := 0, cells := 0, slots := 0, locals := 0 })
abbrev M_J0_isLatin1_aae02 : xM := (yJ0_isLatin1_aae02, cJ0_isLatin1_aae02, 1, (some .boolean), { frames := 0, cells := 0, slots := 0, locals := 0 })
abbrev M_J0_length_8abf5 : xM := (yJ0_length_8abf5, cJ0_length_8abf5, 1, (some .int), { frames := 1, cells := 0, slots := 0, locals := 20 })
abbrev M_J1_charAt_3b067 : xM := (yJ1_charAt_3b067, cJ1_charAt_3b067, 2, (some .char), { frames := 2, cells := 0, slots := 0, locals := 43 })
abbrev M_J3_checkIndex_8e157 : xM := (yJ3_checkIndex_8e157, cJ3_checkIndex_8e157, 3, (some .int), { frames := 0, cells := 0, slots := 0, locals := 0 })
theorem dJ0_coder_7d493_0 : decode cJ0_coder_7d493 0 = .ok (.getstatic 38, 3) := by decide +kernel
theorem dJ0_coder_7d493_3 : decode cJ0_coder_7d493 3 = .ok (.ifCond .eq 10, 3) := by decide +kernel
theorem dJ0_coder_7d493_6 : decode cJ0_coder_7d493 6 = .ok (.aload_n 0, 1) := by decide +kernel
theorem dJ0_coder_7d493_7 : decode cJ0_coder_7d493 7 = .ok (.getfield 15, 3) := by decide +kernel
theorem dJ0_coder_7d493_10 : decode cJ0_coder_7d493 10 = .ok (.goto 4, 3) := by decide +kernel
theorem dJ0_coder_7d493_14 : decode cJ0_coder_7d493 14 = .ok (.ireturn, 1) := by decide +kernel
theorem dJ0_isLatin1_aae02_0 : decode cJ0_isLatin1_aae02 0 = .ok (.getstatic 38, 3) := by decide +kernel
theorem dJ0_isLatin1_aae02_3 : decode cJ0_isLatin1_aae02 3 = .ok (.ifCond .eq 14, 3) := by decide +kernel
theorem dJ0_isLatin1_aae02_6 : decode cJ0_isLatin1_aae02 6 = .ok (.aload_n 0, 1) := by decide +kernel
theorem dJ0_isLatin1_aae02_7 : decode cJ0_isLatin1_aae02 7 = .ok (.getfield 15, 3) := by decide +kernel
theorem dJ0_isLatin1_aae02_10 : decode cJ0_isLatin1_aae02 10 = .ok (.ifCond .ne 7, 3) := by decide +kernel
theorem dJ0_isLatin1_aae02_13 : decode cJ0_isLatin1_aae02 13 = .ok (.iconst 1, 1) := by decide +kernel
theorem dJ0_isLatin1_aae02_14 : decode cJ0_isLatin1_aae02 14 = .ok (.goto 4, 3) := by decide +kernel
theorem dJ0_isLatin1_aae02_18 : decode cJ0_isLatin1_aae02 18 = .ok (.ireturn, 1) := by decide +kernel
theorem dJ0_length_8abf5_0 : decode cJ0_length_8abf5 0 = .ok (.aload_n 0, 1) := by decide +kernel
theorem dJ0_length_8abf5_1 : decode cJ0_length_8abf5 1 = .ok (.getfield 9, 3) := by decide +kernel
theorem dJ0_length_8abf5_4 : decode cJ0_length_8abf5 4 = .ok (.arraylength, 1) := by decide +kernel
theorem dJ0_length_8abf5_5 : decode cJ0_length_8abf5 5 = .ok (.aload_n 0, 1) := by decide +kernel
theorem dJ0_length_8abf5_6 : decode cJ0_length_8abf5 6 = .ok (.invokevirtual 335, 3) := by decide +kernel
theorem dJ0_length_8abf5_9 : decode cJ0_length_8abf5 9 = .ok (.ishr, 1) := by decide +kernel
theorem dJ0_length_8abf5_10 : decode cJ0_length_8abf5 10 = .ok (.ireturn, 1) := by decide +kernel
theorem dJ3_checkIndex_8e157_0 : decode cJ3_checkIndex_8e157 0 = .ok (.iload_n 0, 1) := by decide +kernel
theorem dJ3_checkIndex_8e157_1 : decode cJ3_checkIndex_8e157 1 = .ok (.ifCond .lt 8, 3) := by decide +kernel
theorem dJ3_checkIndex_8e157_4 : decode cJ3_checkIndex_8e157 4 = .ok (.iload_n 0, 1) := by decide +kernel
theorem dJ3_checkIndex_8e157_5 : decode cJ3_checkIndex_8e157 5 = .ok (.iload_n 1, 1) := by decide +kernel
theorem dJ3_checkIndex_8e157_6 : decode cJ3_checkIndex_8e157 6 = .ok (.if_icmp .lt 10, 3) := by decide +kernel
theorem dJ3_checkIndex_8e157_9 : decode cJ3_checkIndex_8e157 9 = .ok (.aload_n 2, 1) := by decide +kernel
theorem dJ3_checkIndex_8e157_16 : decode cJ3_checkIndex_8e157 16 = .ok (.iload_n 0, 1) := by decide +kernel
theorem dJ3_checkIndex_8e157_17 : decode cJ3_checkIndex_8e157 17 = .ok (.ireturn, 1) := by decide +kernel
theorem dJ0_checkIndex_df160_0 : decode cJ0_checkIndex_df160 0 = .ok (.iload_n 0, 1) := by decide +kernel
theorem dJ0_checkIndex_df160_1 : decode cJ0_checkIndex_df160 1 = .ok (.iload_n 1, 1) := by decide +kernel
theorem dJ0_checkIndex_df160_2 : decode cJ0_checkIndex_df160 2 = .ok (.getstatic 1053, 3) := by decide +kernel
theorem dJ0_checkIndex_df160_5 : decode cJ0_checkIndex_df160 5 = .ok (.invokestatic 1059, 3) := by decide +kernel
theorem dJ0_checkIndex_df160_8 : decode cJ0_checkIndex_df160 8 = .ok (.pop, 1) := by decide +kernel
theorem dJ0_checkIndex_df160_9 : decode cJ0_checkIndex_df160 9 = .ok (.return_, 1) := by decide +kernel
theorem dJ1_charAt_3b067_0 : decode cJ1_charAt_3b067 0 = .ok (.iload_n 1, 1) := by decide +kernel
theorem dJ1_charAt_3b067_1 : decode cJ1_charAt_3b067 1 = .ok (.aload_n 0, 1) := by decide +kernel
theorem dJ1_charAt_3b067_2 : decode cJ1_charAt_3b067 2 = .ok (.arraylength, 1) := by decide +kernel
theorem dJ1_charAt_3b067_3 : decode cJ1_charAt_3b067 3 = .ok (.invokestatic 9, 3) := by decide +kernel
theorem dJ1_charAt_3b067_6 : decode cJ1_charAt_3b067 6 = .ok (.aload_n 0, 1) := by decide +kernel
theorem dJ1_charAt_3b067_7 : decode cJ1_charAt_3b067 7 = .ok (.iload_n 1, 1) := by decide +kernel
theorem dJ1_charAt_3b067_8 : decode cJ1_charAt_3b067 8 = .ok (.baload, 1) := by decide +kernel
theorem dJ1_charAt_3b067_9 : decode cJ1_charAt_3b067 9 = .ok (.sipush 255, 3) := by decide +kernel
theorem dJ1_charAt_3b067_12 : decode cJ1_charAt_3b067 12 = .ok (.iand, 1) := by decide +kernel
theorem dJ1_charAt_3b067_13 : decode cJ1_charAt_3b067 13 = .ok (.i2c, 1) := by decide +kernel
theorem dJ1_charAt_3b067_14 : decode cJ1_charAt_3b067 14 = .ok (.ireturn, 1) := by decide +kernel
theorem dJ0_charAt_5068e_0 : decode cJ0_charAt_5068e 0 = .ok (.aload_n 0, 1) := by decide +kernel
theorem dJ0_charAt_5068e_1 : decode cJ0_charAt_5068e 1 = .ok (.invokevirtual 492, 3) := by decide +kernel
theorem dJ0_charAt_5068e_4 : decode cJ0_charAt_5068e 4 = .ok (.ifCond .eq 12, 3) := by decide +kernel
theorem dJ0_charAt_5068e_7 : decode cJ0_charAt_5068e 7 = .ok (.aload_n 0, 1) := by decide +kernel
theorem dJ0_charAt_5068e_8 : decode cJ0_charAt_5068e 8 = .ok (.getfield 9, 3) := by decide +kernel
theorem dJ0_charAt_5068e_11 : decode cJ0_charAt_5068e 11 = .ok (.iload_n 1, 1) := by decide +kernel
theorem dJ0_charAt_5068e_12 : decode cJ0_charAt_5068e 12 = .ok (.invokestatic 495, 3) := by decide +kernel
theorem dJ0_charAt_5068e_15 : decode cJ0_charAt_5068e 15 = .ok (.ireturn, 1) := by decide +kernel
theorem dJ0_charAt_5068e_16 : decode cJ0_charAt_5068e 16 = .ok (.aload_n 0, 1) := by decide +kernel
theorem dJ0_charAt_5068e_17 : decode cJ0_charAt_5068e 17 = .ok (.getfield 9, 3) := by decide +kernel
theorem dJ0_charAt_5068e_20 : decode cJ0_charAt_5068e 20 = .ok (.iload_n 1, 1) := by decide +kernel
theorem dJ0_charAt_5068e_21 : decode cJ0_charAt_5068e 21 = .ok (.invokestatic 498, 3) := by decide +kernel
theorem dX7_wordIs_0 : decode cX7_wordIs 0 = .ok (.iload_n 1, 1) := by decide +kernel
theorem dX7_wordIs_1 : decode cX7_wordIs 1 = .ok (.ifCond .lt 31, 3) := by decide +kernel
theorem dX7_wordIs_4 : decode cX7_wordIs 4 = .ok (.iload_n 1, 1) := by decide +kernel
theorem dX7_wordIs_5 : decode cX7_wordIs 5 = .ok (.aload_n 0, 1) := by decide +kernel
theorem dX7_wordIs_6 : decode cX7_wordIs 6 = .ok (.getfield 62, 3) := by decide +kernel
theorem dX7_wordIs_9 : decode cX7_wordIs 9 = .ok (.if_icmp .ge 23, 3) := by decide +kernel
theorem dX7_wordIs_12 : decode cX7_wordIs 12 = .ok (.aload_n 0, 1) := by decide +kernel
theorem dX7_wordIs_13 : decode cX7_wordIs 13 = .ok (.getfield 21, 3) := by decide +kernel
theorem dX7_wordIs_16 : decode cX7_wordIs 16 = .ok (.iload_n 1, 1) := by decide +kernel
theorem dX7_wordIs_17 : decode cX7_wordIs 17 = .ok (.iaload, 1) := by decide +kernel
theorem dX7_wordIs_18 : decode cX7_wordIs 18 = .ok (.aload_n 0, 1) := by decide +kernel
theorem dX7_wordIs_19 : decode cX7_wordIs 19 = .ok (.getfield 17, 3) := by decide +kernel
theorem dX7_wordIs_22 : decode cX7_wordIs 22 = .ok (.iload_n 1, 1) := by decide +kernel
theorem dX7_wordIs_23 : decode cX7_wordIs 23 = .ok (.iaload, 1) := by decide +kernel
theorem dX7_wordIs_24 : decode cX7_wordIs 24 = .ok (.isub, 1) := by decide +kernel
theorem dX7_wordIs_25 : decode cX7_wordIs 25 = .ok (.aload_n 2, 1) := by decide +kernel
theorem dX7_wordIs_26 : decode cX7_wordIs 26 = .ok (.invokevirtual 119, 3) := by decide +kernel
theorem dX7_wordIs_29 : decode cX7_wordIs 29 = .ok (.if_icmp .eq 5, 3) := by decide +kernel
theorem dX7_wordIs_32 : decode cX7_wordIs 32 = .ok (.iconst 0, 1) := by decide +kernel
theorem dX7_wordIs_33 : decode cX7_wordIs 33 = .ok (.ireturn, 1) := by decide +kernel
theorem dX7_wordIs_34 : decode cX7_wordIs 34 = .ok (.iconst 0, 1) := by decide +kernel
theorem dX7_wordIs_35 : decode cX7_wordIs 35 = .ok (.istore_n 3, 1) := by decide +kernel
theorem dX7_wordIs_36 : decode cX7_wordIs 36 = .ok (.iload_n 3, 1) := by decide +kernel
theorem dX7_wordIs_37 : decode cX7_wordIs 37 = .ok (.aload_n 2, 1) := by decide +kernel
theorem dX7_wordIs_38 : decode cX7_wordIs 38 = .ok (.invokevirtual 119, 3) := by decide +kernel
theorem dX7_wordIs_41 : decode cX7_wordIs 41 = .ok (.if_icmp .ge 32, 3) := by decide +kernel
theorem dX7_wordIs_44 : decode cX7_wordIs 44 = .ok (.aload_n 0, 1) := by decide +kernel
theorem dX7_wordIs_45 : decode cX7_wordIs 45 = .ok (.getfield 13, 3) := by decide +kernel
theorem dX7_wordIs_48 : decode cX7_wordIs 48 = .ok (.aload_n 0, 1) := by decide +kernel
theorem dX7_wordIs_49 : decode cX7_wordIs 49 = .ok (.getfield 17, 3) := by decide +kernel
theorem dX7_wordIs_52 : decode cX7_wordIs 52 = .ok (.iload_n 1, 1) := by decide +kernel
theorem dX7_wordIs_53 : decode cX7_wordIs 53 = .ok (.iaload, 1) := by decide +kernel
theorem dX7_wordIs_54 : decode cX7_wordIs 54 = .ok (.iload_n 3, 1) := by decide +kernel
theorem dX7_wordIs_55 : decode cX7_wordIs 55 = .ok (.iadd, 1) := by decide +kernel
theorem dX7_wordIs_56 : decode cX7_wordIs 56 = .ok (.caload, 1) := by decide +kernel
theorem dX7_wordIs_57 : decode cX7_wordIs 57 = .ok (.aload_n 2, 1) := by decide +kernel
theorem dX7_wordIs_58 : decode cX7_wordIs 58 = .ok (.iload_n 3, 1) := by decide +kernel
theorem dX7_wordIs_59 : decode cX7_wordIs 59 = .ok (.invokevirtual 123, 3) := by decide +kernel
theorem dX7_wordIs_62 : decode cX7_wordIs 62 = .ok (.if_icmp .eq 5, 3) := by decide +kernel
theorem dX7_wordIs_65 : decode cX7_wordIs 65 = .ok (.iconst 0, 1) := by decide +kernel
theorem dX7_wordIs_66 : decode cX7_wordIs 66 = .ok (.ireturn, 1) := by decide +kernel
theorem dX7_wordIs_67 : decode cX7_wordIs 67 = .ok (.iinc 3 1, 3) := by decide +kernel
theorem dX7_wordIs_70 : decode cX7_wordIs 70 = .ok (.goto (-34), 3) := by decide +kernel
theorem dX7_wordIs_73 : decode cX7_wordIs 73 = .ok (.iconst 1, 1) := by decide +kernel
theorem dX7_wordIs_74 : decode cX7_wordIs 74 = .ok (.ireturn, 1) := by decide +kernel
set_option maxRecDepth 20000 in
theorem v_J0_coder_7d493_0 {g : xG} {post : xPost} {h : xHp} {nx : Nat} {j : Nat}  (V : (j < 11 ∧ (post (some (.int (nI 0))) h nx))) : Blk g M_J0_coder_7d493 post 0 [(0, .ref (gS g j))] [] h nx 0 0 := by
  refine r_gsC rfl wF_J0_38 dJ0_coder_7d493_0 ?_
  refine r_if_eqN (tgt := 13) dJ0_coder_7d493_3 (by decide) (by decide) (fun c => absurd c (by decide)) (fun _ => ?_)
  refine r_aload_n 0 dJ0_coder_7d493_6 rfl rfl ?_
  obtain ⟨c, V⟩ := V
  refine r_getSc c rfl wF_J0_15 dJ0_coder_7d493_7 ?_
  refine r_goto (tgt := 14) dJ0_coder_7d493_10 (by decide) ?_
  exact r_zret (ty := .byte) dJ0_coder_7d493_14 rfl rfl (by decide) (by decide) V
set_option maxRecDepth 20000 in
theorem v_J0_isLatin1_aae02_0 {g : xG} {post : xPost} {h : xHp} {nx : Nat} {j : Nat}  (V : (j < 11 ∧ (post (some (.int (nI 1))) h nx))) : Blk g M_J0_isLatin1_aae02 post 0 [(0, .ref (gS g j))] [] h nx 0 0 := by
  refine r_gsC rfl wF_J0_38 dJ0_isLatin1_aae02_0 ?_
  refine r_if_eqN (tgt := 17) dJ0_isLatin1_aae02_3 (by decide) (by decide) (fun c => absurd c (by decide)) (fun _ => ?_)
  refine r_aload_n 0 dJ0_isLatin1_aae02_6 rfl rfl ?_
  obtain ⟨c, V⟩ := V
  refine r_getSc c rfl wF_J0_15 dJ0_isLatin1_aae02_7 ?_
  refine r_if_neN (tgt := 17) dJ0_isLatin1_aae02_10 (by decide) (by decide) (fun c => absurd c (by decide)) (fun _ => ?_)
  refine r_iconst (v := (nI 1)) dJ0_isLatin1_aae02_13 rfl ?_
  refine r_goto (tgt := 18) dJ0_isLatin1_aae02_14 (by decide) ?_
  exact r_zret (ty := .boolean) dJ0_isLatin1_aae02_18 rfl rfl (by decide) (by decide) V
set_option maxRecDepth 20000 in
theorem v_J0_length_8abf5_0 {g : xG} {post : xPost} {h : xHp} {nx : Nat} {j : Nat}  (V : (j < 11 ∧ (j < 11 ∧ (j < 11 ∧ Ct g M_J0_coder_7d493 [.ref (gS g j)] h nx (fun r h1 n2 => ∃ v3 : Nat, r = some (.int (nI v3)) ∧ (post (some (.int ((nI (xLen.getD j 0)) >>> ((nI v3) &&& 31)))) h1 n2)))))) : Blk g M_J0_length_8abf5 post 0 [(0, .ref (gS g j))] [] h nx 0 0 := by
  refine r_aload_n 0 dJ0_length_8abf5_0 rfl rfl ?_
  obtain ⟨c, V⟩ := V
  refine r_getSv c rfl wF_J0_9 dJ0_length_8abf5_1 ?_
  obtain ⟨c, V⟩ := V
  refine r_alenS c dJ0_length_8abf5_4 ?_
  refine r_aload_n 0 dJ0_length_8abf5_5 rfl rfl ?_
  obtain ⟨cj, V⟩ := V
  refine r_callVS (M2 := M_J0_coder_7d493) (n := 0) (As := []) cj rfl (wl5 wM_J0_335 wi_J0_coder_7d493 wS_J0_coder_7d493 wI_java_lang_String wc_J0_coder_7d493) (by decide +kernel) (by decide) rfl rfl (Nat.le_of_ble_eq_true rfl) dJ0_length_8abf5_6 (by decide) (by decide) (Ct.imp V (fun r h1 n2 V => ?_))
  obtain ⟨v3, rfl, V⟩ := V
  show Blk g M_J0_length_8abf5 post 9 [(0, .ref (gS g j))] [.int (nI v3), .int (nI (xLen.getD j 0))] h1 n2 0 0
  refine r_ishr dJ0_length_8abf5_9 ?_
  exact r_iret dJ0_length_8abf5_10 rfl (by decide) (by decide) V
set_option maxRecDepth 20000 in
theorem v_J3n_checkIndex_8e157_0 {g : xG} {post : xPost} {h : xHp} {nx : Nat} {j : Nat} {x0 : Nat} {x1 : Nat} (V : (x0 < 2 ^ 31 ∧ ((x0 < 2 ^ 31 ∧ x1 < 2 ^ 31) ∧ ((x0 < x1 → (post (some (.int (nI x0))) h nx)) ∧ (x1 ≤ x0 → False))))) : Blk g M_J3_checkIndex_8e157 post 0 [(0, .int (nI x0)), (1, .int (nI x1)), (2, .null)] [] h nx 0 0 := by
  refine r_iload_n 0 dJ3_checkIndex_8e157_0 rfl rfl ?_
  obtain ⟨c, V⟩ := V
  refine r_if_ltN (tgt := 9) dJ3_checkIndex_8e157_1 (by decide) c ?_
  refine r_iload_n 0 dJ3_checkIndex_8e157_4 rfl rfl ?_
  refine r_iload_n 1 dJ3_checkIndex_8e157_5 rfl rfl ?_
  obtain ⟨c, V⟩ := V
  refine r_icmp_ltN (tgt := 16) dJ3_checkIndex_8e157_6 (by decide) c (fun c => ?_) (fun c => ?_)
  · have V := V.1 c
    refine r_iload_n 0 dJ3_checkIndex_8e157_16 rfl rfl ?_
    exact r_iret dJ3_checkIndex_8e157_17 rfl (by decide) (by decide) V
  · have V := V.2 c
    exact V.elim
set_option maxRecDepth 20000 in
theorem v_J3_checkIndex_8e157_0 {g : xG} {post : xPost} {h : xHp} {nx : Nat} {j : Nat} {x0 : Nat} {x1 : Nat} {x2 : Nat} (V : (x0 < 2 ^ 31 ∧ ((x0 < 2 ^ 31 ∧ x1 < 2 ^ 31) ∧ ((x0 < x1 → (post (some (.int (nI x0))) h nx)) ∧ (x1 ≤ x0 → False))))) : Blk g M_J3_checkIndex_8e157 post 0 [(0, .int (nI x0)), (1, .int (nI x1)), (2, .ref x2)] [] h nx 0 0 := by
  refine r_iload_n 0 dJ3_checkIndex_8e157_0 rfl rfl ?_
  obtain ⟨c, V⟩ := V
  refine r_if_ltN (tgt := 9) dJ3_checkIndex_8e157_1 (by decide) c ?_
  refine r_iload_n 0 dJ3_checkIndex_8e157_4 rfl rfl ?_
  refine r_iload_n 1 dJ3_checkIndex_8e157_5 rfl rfl ?_
  obtain ⟨c, V⟩ := V
  refine r_icmp_ltN (tgt := 16) dJ3_checkIndex_8e157_6 (by decide) c (fun c => ?_) (fun c => ?_)
  · have V := V.1 c
    refine r_iload_n 0 dJ3_checkIndex_8e157_16 rfl rfl ?_
    exact r_iret dJ3_checkIndex_8e157_17 rfl (by decide) (by decide) V
  · have V := V.2 c
    exact V.elim
set_option maxRecDepth 20000 in
theorem v_J0_checkIndex_df160_0 {g : xG} {post : xPost} {h : xHp} {nx : Nat} {j : Nat} {x0 : Nat} {x1 : Nat} (V : ((Ct g M_J3_checkIndex_8e157 [.int (nI x0), .int (nI x1), .null] h nx (fun r h2 n3 => ∃ v4 : Nat, r = some (.int (nI v4)) ∧ (post none h2 n3))) ∧ (∀ w1 : Nat, (Ct g M_J3_checkIndex_8e157 [.int (nI x0), .int (nI x1), (.ref w1)] h nx (fun r h5 n6 => ∃ v7 : Nat, r = some (.int (nI v7)) ∧ (post none h5 n6)))))) : Blk g M_J0_checkIndex_df160 post 0 [(0, .int (nI x0)), (1, .int (nI x1))] [] h nx 0 0 := by
  refine r_iload_n 0 dJ0_checkIndex_df160_0 rfl rfl ?_
  refine r_iload_n 1 dJ0_checkIndex_df160_1 rfl rfl ?_
  refine r_gsF rfl wF_J0_1053 dJ0_checkIndex_df160_2 ?_ (fun w1 => ?_)
  · have V := V.1
    refine r_callS (M2 := M_J3_checkIndex_8e157) (n := 3) (As := [.int (nI x0), .int (nI x1), .null]) (wl4 wM_J0_1059 ws_J3_checkIndex_8e157 wI_jdk_internal_util_Preconditions wc_J3_checkIndex_8e157) (by decide +kernel) (by decide) rfl rfl (Nat.le_of_ble_eq_true rfl) dJ0_checkIndex_df160_5 (by decide) (by decide) (Ct.imp V (fun r h2 n3 V => ?_))
    obtain ⟨v4, rfl, V⟩ := V
    show Blk g M_J0_checkIndex_df160 post 8 [(0, .int (nI x0)), (1, .int (nI x1))] [.int (nI v4)] h2 n3 0 0
    refine r_pop dJ0_checkIndex_df160_8 rfl ?_
    exact r_vret dJ0_checkIndex_df160_9 rfl (by decide) (by decide) V
  · have V := V.2 w1
    refine r_callS (M2 := M_J3_checkIndex_8e157) (n := 3) (As := [.int (nI x0), .int (nI x1), (.ref w1)]) (wl4 wM_J0_1059 ws_J3_checkIndex_8e157 wI_jdk_internal_util_Preconditions wc_J3_checkIndex_8e157) (by decide +kernel) (by decide) rfl rfl (Nat.le_of_ble_eq_true rfl) dJ0_checkIndex_df160_5 (by decide) (by decide) (Ct.imp V (fun r h5 n6 V => ?_))
    obtain ⟨v7, rfl, V⟩ := V
    show Blk g M_J0_checkIndex_df160 post 8 [(0, .int (nI x0)), (1, .int (nI x1))] [.int (nI v7)] h5 n6 0 0
    refine r_pop dJ0_checkIndex_df160_8 rfl ?_
    exact r_vret dJ0_checkIndex_df160_9 rfl (by decide) (by decide) V
set_option maxRecDepth 20000 in
theorem v_J1_charAt_3b067_0 {g : xG} {post : xPost} {h : xHp} {nx : Nat} {j : Nat} {x1 : Nat} (V : (j < 11 ∧ (Ct g M_J0_checkIndex_df160 [.int (nI x1), .int (nI (xLen.getD j 0))] h nx (fun r h1 n2 => r = none ∧ (j < 11 ∧ x1 < xLen.getD j 0 ∧ (narrow .char (.int ((((nI (bN j x1)) &&& (nI 255)).toUInt32 % 65536).toInt32)) = .int ((((nI (bN j x1)) &&& (nI 255)).toUInt32 % 65536).toInt32) ∧ post (some (.int ((((nI (bN j x1)) &&& (nI 255)).toUInt32 % 65536).toInt32))) h1 n2)))))) : Blk g M_J1_charAt_3b067 post 0 [(0, .ref (gY g j)), (1, .int (nI x1))] [] h nx 0 0 := by
  refine r_iload_n 1 dJ1_charAt_3b067_0 rfl rfl ?_
  refine r_aload_n 0 dJ1_charAt_3b067_1 rfl rfl ?_
  obtain ⟨c, V⟩ := V
  refine r_alenS c dJ1_charAt_3b067_2 ?_
  refine r_callS (M2 := M_J0_checkIndex_df160) (n := 2) (As := [.int (nI x1), .int (nI (xLen.getD j 0))]) (wl4 wM_J1_9 ws_J0_checkIndex_df160 wI_java_lang_String wc_J0_checkIndex_df160) (by decide +kernel) (by decide) rfl rfl (Nat.le_of_ble_eq_true rfl) dJ1_charAt_3b067_3 (by decide) (by decide) (Ct.imp V (fun r h1 n2 V => ?_))
  obtain ⟨rfl, V⟩ := V
  show Blk g M_J1_charAt_3b067 post 6 [(0, .ref (gY g j)), (1, .int (nI x1))] [] h1 n2 0 0
  refine r_aload_n 0 dJ1_charAt_3b067_6 rfl rfl ?_
  refine r_iload_n 1 dJ1_charAt_3b067_7 rfl rfl ?_
  obtain ⟨c, c2, V⟩ := V
  refine r_baldS c dJ1_charAt_3b067_8 rfl c2 ?_
  refine r_sipush (v := (nI 255)) dJ1_charAt_3b067_9 rfl ?_
  refine r_iand dJ1_charAt_3b067_12 ?_
  refine r_i2c dJ1_charAt_3b067_13 ?_
  obtain ⟨c, V⟩ := V
  exact r_zret (ty := .char) dJ1_charAt_3b067_14 rfl c (by decide) (by decide) V
set_option maxRecDepth 20000 in
theorem v_J0_charAt_5068e_0 {g : xG} {post : xPost} {h : xHp} {nx : Nat} {j : Nat} {x1 : Nat} (V : (j < 11 ∧ Ct g M_J0_isLatin1_aae02 [.ref (gS g j)] h nx (fun r h1 n2 => ∃ v3 : Nat, r = some (.int (nI v3)) ∧ (v3 < 2 ^ 31 ∧ ((v3 = 0 → (j < 11 ∧ False)) ∧ (¬ v3 = 0 → (j < 11 ∧ (Ct g M_J1_charAt_3b067 [.ref (gY g j), .int (nI x1)] h1 n2 (fun r h4 n5 => ∃ v6 : Nat, r = some (.int (nI v6)) ∧ (narrow .char (.int (nI v6)) = .int (nI v6) ∧ post (some (.int (nI v6))) h4 n5)))))))))) : Blk g M_J0_charAt_5068e post 0 [(0, .ref (gS g j)), (1, .int (nI x1))] [] h nx 0 0 := by
  refine r_aload_n 0 dJ0_charAt_5068e_0 rfl rfl ?_
  obtain ⟨cj, V⟩ := V
  refine r_callVS (M2 := M_J0_isLatin1_aae02) (n := 0) (As := []) cj rfl (wl5 wM_J0_492 wi_J0_isLatin1_aae02 wS_J0_isLatin1_aae02 wI_java_lang_String wc_J0_isLatin1_aae02) (by decide +kernel) (by decide) rfl rfl (Nat.le_of_ble_eq_true rfl) dJ0_charAt_5068e_1 (by decide) (by decide) (Ct.imp V (fun r h1 n2 V => ?_))
  obtain ⟨v3, rfl, V⟩ := V
  show Blk g M_J0_charAt_5068e post 4 [(0, .ref (gS g j)), (1, .int (nI x1))] [.int (nI v3)] h1 n2 0 0
  obtain ⟨c, V⟩ := V
  refine r_if_eqN (tgt := 16) dJ0_charAt_5068e_4 (by decide) c (fun c => ?_) (fun c => ?_)
  · have V := V.1 c
    refine r_aload_n 0 dJ0_charAt_5068e_16 rfl rfl ?_
    obtain ⟨c, V⟩ := V
    refine r_getSv c rfl wF_J0_9 dJ0_charAt_5068e_17 ?_
    refine r_iload_n 1 dJ0_charAt_5068e_20 rfl rfl ?_
    exact V.elim
  · have V := V.2 c
    refine r_aload_n 0 dJ0_charAt_5068e_7 rfl rfl ?_
    obtain ⟨c, V⟩ := V
    refine r_getSv c rfl wF_J0_9 dJ0_charAt_5068e_8 ?_
    refine r_iload_n 1 dJ0_charAt_5068e_11 rfl rfl ?_
    refine r_callS (M2 := M_J1_charAt_3b067) (n := 2) (As := [.ref (gY g j), .int (nI x1)]) (wl4 wM_J0_495 ws_J1_charAt_3b067 wI_java_lang_StringLatin1 wc_J1_charAt_3b067) (by decide +kernel) (by decide) rfl rfl (Nat.le_of_ble_eq_true rfl) dJ0_charAt_5068e_12 (by decide) (by decide) (Ct.imp V (fun r h4 n5 V => ?_))
    obtain ⟨v6, rfl, V⟩ := V
    show Blk g M_J0_charAt_5068e post 15 [(0, .ref (gS g j)), (1, .int (nI x1))] [.int (nI v6)] h4 n5 0 0
    obtain ⟨c, V⟩ := V
    exact r_zret (ty := .char) dJ0_charAt_5068e_15 rfl c (by decide) (by decide) V
set_option maxRecDepth 20000 in
theorem v_X7_wordIs_0 {g : xG} {post : xPost} {h : xHp} {nx : Nat} {j : Nat} {x0 : Nat} {x1 : Nat} (V : (x1 < 2 ^ 31 ∧ (∃ (o2 : Nat) (o3 : Nat) (o4 : Nat) (o5 : Nat) (o6 : Nat) (o7 : Nat) (o8 : Nat) (o9 : Nat) (o10 : Nat), h x0 = some (xo 8 [.int (nI o2), .ref o3, .int (nI o4), .ref o5, .ref o6, .int (nI o7), .int (nI o8), .ref o9, .ref o10]) ∧ ((x1 < 2 ^ 31 ∧ o7 < 2 ^ 31) ∧ ((o7 ≤ x1 → (post (some (.int (nI 0))) h nx)) ∧ (x1 < o7 → (∃ (N12 : Nat) (f13 : Nat → Nat), h o6 = some (xna N12 f13) ∧ x1 < N12 ∧ N12 < 2 ^ 31 ∧ (∃ (N15 : Nat) (f16 : Nat → Nat), h o5 = some (xna N15 f16) ∧ x1 < N15 ∧ N15 < 2 ^ 31 ∧ ((f16 x1) ≤ (f13 x1) ∧ (j < 11 ∧ Ct g M_J0_length_8abf5 [.ref (gS g j)] h nx (fun r h17 n18 => ∃ v19 : Int32, r = some (.int v19) ∧ (((nI ((f13 x1) - (f16 x1))) = v19 → Blk g M_X7_wordIs post 36 [(0, .ref x0), (1, .int (nI x1)), (2, .ref (gS g j)), (3, .int (nI 0))] [] h17 n18 0 0) ∧ (¬ (nI ((f13 x1) - (f16 x1))) = v19 → (post (some (.int (nI 0))) h17 n18)))))))))))))) : Blk g M_X7_wordIs post 0 [(0, .ref x0), (1, .int (nI x1)), (2, .ref (gS g j))] [] h nx 0 0 := by
  refine r_iload_n 1 dX7_wordIs_0 rfl rfl ?_
  obtain ⟨c, V⟩ := V
  refine r_if_ltN (tgt := 32) dX7_wordIs_1 (by decide) c ?_
  refine r_iload_n 1 dX7_wordIs_4 rfl rfl ?_
  refine r_aload_n 0 dX7_wordIs_5 rfl rfl ?_
  obtain ⟨o2, o3, o4, o5, o6, o7, o8, o9, o10, q1, V⟩ := V
  refine r_getf (ci := 8) (kf := 5) (T := TX7) rfl in_X7 (by decide) wF_X7_62 dX7_wordIs_6 q1 rfl ?_
  obtain ⟨c, V⟩ := V
  refine r_icmp_geN (tgt := 32) dX7_wordIs_9 (by decide) c (fun c => ?_) (fun c => ?_)
  · have V := V.1 c
    refine r_iconst (v := (nI 0)) dX7_wordIs_32 rfl ?_
    exact r_zret (ty := .boolean) dX7_wordIs_33 rfl rfl (by decide) (by decide) V
  · have V := V.2 c
    refine r_aload_n 0 dX7_wordIs_12 rfl rfl ?_
    refine r_getf (ci := 8) (kf := 4) (T := TX7) rfl in_X7 (by decide) wF_X7_21 dX7_wordIs_13 q1 rfl ?_
    refine r_iload_n 1 dX7_wordIs_16 rfl rfl ?_
    obtain ⟨N12, f13, q11, V⟩ := V
    obtain ⟨c, cN, V⟩ := V
    refine r_iald dX7_wordIs_17 q11 rfl c cN ?_
    show Blk g M_X7_wordIs post 18 [(0, .ref x0), (1, .int (nI x1)), (2, .ref (gS g j))] [.int (nI (f13 x1))] h nx 0 0
    refine r_aload_n 0 dX7_wordIs_18 rfl rfl ?_
    refine r_getf (ci := 8) (kf := 3) (T := TX7) rfl in_X7 (by decide) wF_X7_17 dX7_wordIs_19 q1 rfl ?_
    refine r_iload_n 1 dX7_wordIs_22 rfl rfl ?_
    obtain ⟨N15, f16, q14, V⟩ := V
    obtain ⟨c, cN, V⟩ := V
    refine r_iald dX7_wordIs_23 q14 rfl c cN ?_
    show Blk g M_X7_wordIs post 24 [(0, .ref x0), (1, .int (nI x1)), (2, .ref (gS g j))] [.int (nI (f16 x1)), .int (nI (f13 x1))] h nx 0 0
    obtain ⟨c, V⟩ := V
    refine r_isubN dX7_wordIs_24 c ?_
    refine r_aload_n 2 dX7_wordIs_25 rfl rfl ?_
    obtain ⟨cj, V⟩ := V
    refine r_callVS (M2 := M_J0_length_8abf5) (n := 0) (As := []) cj rfl (wl5 wM_X7_119 wi_J0_length_8abf5 wS_J0_length_8abf5 wI_java_lang_String wc_J0_length_8abf5) (by decide +kernel) (by decide) rfl rfl (Nat.le_of_ble_eq_true rfl) dX7_wordIs_26 (by decide) (by decide) (Ct.imp V (fun r h17 n18 V => ?_))
    obtain ⟨v19, rfl, V⟩ := V
    show Blk g M_X7_wordIs post 29 [(0, .ref x0), (1, .int (nI x1)), (2, .ref (gS g j))] [.int v19, .int (nI ((f13 x1) - (f16 x1)))] h17 n18 0 0
    refine r_icmp_eq (tgt := 34) dX7_wordIs_29 (by decide) (fun c => ?_) (fun c => ?_)
    · have V := V.1 c
      refine r_iconst (v := (nI 0)) dX7_wordIs_34 rfl ?_
      refine r_istore_n (L' := [(3, .int (nI 0)), (0, .ref x0), (1, .int (nI x1)), (2, .ref (gS g j))]) dX7_wordIs_35 rfl (by decide) rfl ?_
      exact Blk.sub [1, 2, 3, 0] rfl V
    · have V := V.2 c
      refine r_iconst (v := (nI 0)) dX7_wordIs_32 rfl ?_
      exact r_zret (ty := .boolean) dX7_wordIs_33 rfl rfl (by decide) (by decide) V
set_option maxRecDepth 20000 in
theorem v_X7_wordIs_36 {g : xG} {post : xPost} {h : xHp} {nx : Nat} {j : Nat} {x0 : Nat} {x1 : Nat} {x3 : Nat} (V : (j < 11 ∧ Ct g M_J0_length_8abf5 [.ref (gS g j)] h nx (fun r h1 n2 => ∃ v3 : Int32, r = some (.int v3) ∧ ((v3 ≤ (nI x3) → (post (some (.int (nI 1))) h1 n2)) ∧ (¬ v3 ≤ (nI x3) → (∃ (o5 : Nat) (o6 : Nat) (o7 : Nat) (o8 : Nat) (o9 : Nat) (o10 : Nat) (o11 : Nat) (o12 : Nat) (o13 : Nat), h1 x0 = some (xo 8 [.int (nI o5), .ref o6, .int (nI o7), .ref o8, .ref o9, .int (nI o10), .int (nI o11), .ref o12, .ref o13]) ∧ (∃ (N15 : Nat) (f16 : Nat → Nat), h1 o8 = some (xna N15 f16) ∧ x1 < N15 ∧ N15 < 2 ^ 31 ∧ (∃ (N18 : Nat) (f19 : Nat → Nat), h1 o6 = some (xnc N18 f19) ∧ ((f16 x1) + x3) < N18 ∧ N18 < 2 ^ 31 ∧ (j < 11 ∧ Ct g M_J0_charAt_5068e [.ref (gS g j), .int (nI x3)] h1 n2 (fun r h20 n21 => ∃ v22 : Nat, r = some (.int (nI v22)) ∧ (((f19 ((f16 x1) + x3)) < 2 ^ 31 ∧ v22 < 2 ^ 31) ∧ (((f19 ((f16 x1) + x3)) = v22 → Blk g M_X7_wordIs post 36 [(0, .ref x0), (1, .int (nI x1)), (2, .ref (gS g j)), (3, .int (nI (x3 + 1)))] [] h20 n21 0 0) ∧ (¬ (f19 ((f16 x1) + x3)) = v22 → (post (some (.int (nI 0))) h20 n21)))))))))))))) : Blk g M_X7_wordIs post 36 [(0, .ref x0), (1, .int (nI x1)), (2, .ref (gS g j)), (3, .int (nI x3))] [] h nx 0 0 := by
  refine r_iload_n 3 dX7_wordIs_36 rfl rfl ?_
  refine r_aload_n 2 dX7_wordIs_37 rfl rfl ?_
  obtain ⟨cj, V⟩ := V
  refine r_callVS (M2 := M_J0_length_8abf5) (n := 0) (As := []) cj rfl (wl5 wM_X7_119 wi_J0_length_8abf5 wS_J0_length_8abf5 wI_java_lang_String wc_J0_length_8abf5) (by decide +kernel) (by decide) rfl rfl (Nat.le_of_ble_eq_true rfl) dX7_wordIs_38 (by decide) (by decide) (Ct.imp V (fun r h1 n2 V => ?_))
  obtain ⟨v3, rfl, V⟩ := V
  show Blk g M_X7_wordIs post 41 [(0, .ref x0), (1, .int (nI x1)), (2, .ref (gS g j)), (3, .int (nI x3))] [.int v3, .int (nI x3)] h1 n2 0 0
  refine r_icmp_ge (tgt := 73) dX7_wordIs_41 (by decide) (fun c => ?_) (fun c => ?_)
  · have V := V.1 c
    refine r_iconst (v := (nI 1)) dX7_wordIs_73 rfl ?_
    exact r_zret (ty := .boolean) dX7_wordIs_74 rfl rfl (by decide) (by decide) V
  · have V := V.2 c
    refine r_aload_n 0 dX7_wordIs_44 rfl rfl ?_
    obtain ⟨o5, o6, o7, o8, o9, o10, o11, o12, o13, q4, V⟩ := V
    refine r_getf (ci := 8) (kf := 1) (T := TX7) rfl in_X7 (by decide) wF_X7_13 dX7_wordIs_45 q4 rfl ?_
    refine r_aload_n 0 dX7_wordIs_48 rfl rfl ?_
    refine r_getf (ci := 8) (kf := 3) (T := TX7) rfl in_X7 (by decide) wF_X7_17 dX7_wordIs_49 q4 rfl ?_
    refine r_iload_n 1 dX7_wordIs_52 rfl rfl ?_
    obtain ⟨N15, f16, q14, V⟩ := V
    obtain ⟨c, cN, V⟩ := V
    refine r_iald dX7_wordIs_53 q14 rfl c cN ?_
    show Blk g M_X7_wordIs post 54 [(0, .ref x0), (1, .int (nI x1)), (2, .ref (gS g j)), (3, .int (nI x3))] [.int (nI (f16 x1)), .ref o6] h1 n2 0 0
    refine r_iload_n 3 dX7_wordIs_54 rfl rfl ?_
    refine r_iaddN dX7_wordIs_55 ?_
    obtain ⟨N18, f19, q17, V⟩ := V
    obtain ⟨c, cN, V⟩ := V
    refine r_cald dX7_wordIs_56 q17 rfl c cN ?_
    show Blk g M_X7_wordIs post 57 [(0, .ref x0), (1, .int (nI x1)), (2, .ref (gS g j)), (3, .int (nI x3))] [.int (nI (f19 ((f16 x1) + x3)))] h1 n2 0 0
    refine r_aload_n 2 dX7_wordIs_57 rfl rfl ?_
    refine r_iload_n 3 dX7_wordIs_58 rfl rfl ?_
    obtain ⟨cj, V⟩ := V
    refine r_callVS (M2 := M_J0_charAt_5068e) (n := 1) (As := [.int (nI x3)]) cj rfl (wl5 wM_X7_123 wi_J0_charAt_5068e wS_J0_charAt_5068e wI_java_lang_String wc_J0_charAt_5068e) (by decide +kernel) (by decide) rfl rfl (Nat.le_of_ble_eq_true rfl) dX7_wordIs_59 (by decide) (by decide) (Ct.imp V (fun r h20 n21 V => ?_))
    obtain ⟨v22, rfl, V⟩ := V
    show Blk g M_X7_wordIs post 62 [(0, .ref x0), (1, .int (nI x1)), (2, .ref (gS g j)), (3, .int (nI x3))] [.int (nI v22), .int (nI (f19 ((f16 x1) + x3)))] h20 n21 0 0
    obtain ⟨c, V⟩ := V
    refine r_icmp_eqN (tgt := 67) dX7_wordIs_62 (by decide) c (fun c => ?_) (fun c => ?_)
    · have V := V.1 c
      refine r_iincN 3 (b := 1) (L' := [(3, .int (nI (x3 + 1))), (0, .ref x0), (1, .int (nI x1)), (2, .ref (gS g j))]) dX7_wordIs_67 rfl rfl (by decide) rfl ?_
      refine r_goto (tgt := 36) dX7_wordIs_70 (by decide) ?_
      exact Blk.sub [1, 2, 3, 0] rfl V
    · have V := V.2 c
      refine r_iconst (v := (nI 0)) dX7_wordIs_65 rfl ?_
      exact r_zret (ty := .boolean) dX7_wordIs_66 rfl rfl (by decide) (by decide) V
section WI
variable {g : xG} {post : xPost} {h : xHp} {nx : Nat}
theorem c_sCoder {j : Nat} (hj : j < 11) (hp : post (some (.int (nI 0))) h nx) : Ct g M_J0_coder_7d493 [.ref (gS g j)] h nx post :=
  Ct.of (by decide +kernel) (Nat.le_of_ble_eq_true rfl) (v_J0_coder_7d493_0 ⟨hj, hp⟩)
theorem c_sLatin {j : Nat} (hj : j < 11) (hp : post (some (.int (nI 1))) h nx) : Ct g M_J0_isLatin1_aae02 [.ref (gS g j)] h nx post :=
  Ct.of (by decide +kernel) (Nat.le_of_ble_eq_true rfl) (v_J0_isLatin1_aae02_0 ⟨hj, hp⟩)
theorem xLen_sh : ∀ j, j < 11 → (nI (xLen.getD j 0)) >>> ((nI 0) &&& 31) = nI (xLen.getD j 0) := by decide
theorem c_sLen {j : Nat} (hj : j < 11) (hp : post (some (.int (nI (xLen.getD j 0)))) h nx) : Ct g M_J0_length_8abf5 [.ref (gS g j)] h nx post :=
  Ct.of (by decide +kernel) (Nat.le_of_ble_eq_true rfl) (v_J0_length_8abf5_0 ⟨hj, hj, hj, c_sCoder hj ⟨0, rfl, by rw [xLen_sh j hj]; exact hp⟩⟩)
theorem c_pCheckN {i n : Nat} (hi : i < n) (hn : n < 2 ^ 31) (hp : post (some (.int (nI i))) h nx) : Ct g M_J3_checkIndex_8e157 [.int (nI i), .int (nI n), .null] h nx post :=
  Ct.of (by decide +kernel) (Nat.le_of_ble_eq_true rfl) (v_J3n_checkIndex_8e157_0 (j := 0) ⟨by omega, ⟨by omega, hn⟩, fun _ => hp, fun z => absurd z (by omega)⟩)
theorem c_pCheckR {i n t : Nat} (hi : i < n) (hn : n < 2 ^ 31) (hp : post (some (.int (nI i))) h nx) : Ct g M_J3_checkIndex_8e157 [.int (nI i), .int (nI n), .ref t] h nx post :=
  Ct.of (by decide +kernel) (Nat.le_of_ble_eq_true rfl) (v_J3_checkIndex_8e157_0 (j := 0) ⟨by omega, ⟨by omega, hn⟩, fun _ => hp, fun z => absurd z (by omega)⟩)
theorem c_sCheck {i n : Nat} (hi : i < n) (hn : n < 2 ^ 31) (hp : post none h nx) : Ct g M_J0_checkIndex_df160 [.int (nI i), .int (nI n)] h nx post :=
  Ct.of (by decide +kernel) (Nat.le_of_ble_eq_true rfl) (v_J0_checkIndex_df160_0 (j := 0) ⟨c_pCheckN hi hn ⟨_, rfl, hp⟩, fun t => c_pCheckR hi hn ⟨_, rfl, hp⟩⟩)
theorem b_and : ∀ b, b < 128 → (((nI b) &&& (nI 255)).toUInt32 % 65536).toInt32 = nI b := by decide
theorem c_s1CharAt {i j : Nat} (hj : j < 11) (hi : i < xLen.getD j 0) (hp : post (some (.int (nI (bN j i)))) h nx) : Ct g M_J1_charAt_3b067 [.ref (gY g j), .int (nI i)] h nx post := by
  have hl := xLen_le j hj
  have hb := (bN_tab j hj i (by omega) hi).2
  refine Ct.of (by decide +kernel) (Nat.le_of_ble_eq_true rfl) (v_J1_charAt_3b067_0 ⟨hj, c_sCheck hi (by omega) ⟨rfl, hj, hi, ?_⟩⟩)
  rw [b_and _ hb]
  exact ⟨n_char (by omega), hp⟩
theorem c_sCharAt {i j : Nat} (hj : j < 11) (hi : i < xLen.getD j 0) (hp : post (some (.int (nI (bN j i)))) h nx) : Ct g M_J0_charAt_5068e [.ref (gS g j), .int (nI i)] h nx post := by
  have hl := xLen_le j hj
  have hb := (bN_tab j hj i (by omega) hi).2
  exact Ct.of (by decide +kernel) (Nat.le_of_ble_eq_true rfl) (v_J0_charAt_5068e_0 ⟨hj, c_sLatin hj ⟨1, rfl, by decide, fun z => absurd z (by decide), fun _ => ⟨hj, c_s1CharAt hj hi ⟨_, rfl, n_char (by omega), hp⟩⟩⟩⟩)
end WI
