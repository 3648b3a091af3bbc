/-! the law's mark, count, share, at -/
set_option maxRecDepth 20000 in
theorem wCl_L : Cond.classLink "StateSharesLaw" 13 AX ∈ lw_gd := by decide +kernel
abbrev M_L_mark : xM := (yL_mark, cL_mark, 7, (some .int), { frames := 10, cells := 2, slots := 12, locals := 200 })
theorem dL_mark_0 : decode cL_mark 0 = .ok (.aload 5, 2) := by decide +kernel
theorem dL_mark_2 : decode cL_mark 2 = .ok (.iconst 0, 1) := by decide +kernel
theorem dL_mark_3 : decode cL_mark 3 = .ok (.aload_n 0, 1) := by decide +kernel
theorem dL_mark_4 : decode cL_mark 4 = .ok (.iload_n 1, 1) := by decide +kernel
theorem dL_mark_5 : decode cL_mark 5 = .ok (.iload_n 2, 1) := by decide +kernel
theorem dL_mark_6 : decode cL_mark 6 = .ok (.iload_n 3, 1) := by decide +kernel
theorem dL_mark_7 : decode cL_mark 7 = .ok (.iload 4, 2) := by decide +kernel
theorem dL_mark_9 : decode cL_mark 9 = .ok (.invokevirtual 7, 3) := by decide +kernel
theorem dL_mark_12 : decode cL_mark 12 = .ok (.ifCond .eq 7, 3) := by decide +kernel
theorem dL_mark_15 : decode cL_mark 15 = .ok (.lconst 1, 1) := by decide +kernel
theorem dL_mark_16 : decode cL_mark 16 = .ok (.goto 4, 3) := by decide +kernel
theorem dL_mark_19 : decode cL_mark 19 = .ok (.lconst 0, 1) := by decide +kernel
theorem dL_mark_20 : decode cL_mark 20 = .ok (.lastore, 1) := by decide +kernel
theorem dL_mark_21 : decode cL_mark 21 = .ok (.goto 7, 3) := by decide +kernel
theorem dL_mark_24 : decode cL_mark 24 = .ok (.astore 6, 2) := by decide +kernel
theorem dL_mark_26 : decode cL_mark 26 = .ok (.iconst 1, 1) := by decide +kernel
theorem dL_mark_27 : decode cL_mark 27 = .ok (.ireturn, 1) := by decide +kernel
theorem dL_mark_28 : decode cL_mark 28 = .ok (.iconst 0, 1) := by decide +kernel
theorem dL_mark_29 : decode cL_mark 29 = .ok (.ireturn, 1) := by decide +kernel
set_option maxRecDepth 20000 in
theorem wV_L_mark : ∀ w ∈ [Cond.methodLink "StateSharesLaw" 7 (yX9_mark), .instanceMethod (yX9_mark), .selects "StateShares" (yX9_mark) (yX9_mark), .initialized "StateShares", xcode M_X9_mark], w ∈ lw_gd := by decide +kernel
theorem w_mark {g : xG} {post : xPost} {h : xHp} {nx S ob : Nat} {fs : List Value} {a b c d : Int32} (hS : h S = some (xo 10 fs)) (k : Ct g M_X9_mark [.ref S, .int a, .int b, .int c, .int d] h nx (fun r h1 n1 => ∃ v, v < 2 ∧ r = some (.int (nI v)) ∧ ∃ f, h1 ob = some (xla 1 f) ∧ post (some (.int (nI 0))) (xup h1 ob (xla 1 (va_up f 0 (lN v)))) n1) ∨ (CtT g M_X9_mark [.ref S, .int a, .int b, .int c, .int d] h nx ∧ post (some (.int (nI 1))) h (nx + 1))) : CtW g M_L_mark [(0, 21, 24, 13)] [.ref S, .int a, .int b, .int c, .int d, .ref ob] h nx post := by
  refine CtW.of (by decide +kernel) (Nat.le_of_ble_eq_true rfl) ?_
  show BlkY g M_L_mark (KH g [(0, 21, 24, 13)]) (ZR g M_L_mark post) 0 [(0, .ref S), (1, .int a), (2, .int b), (3, .int c), (4, .int d), (5, .ref ob)] [] h nx 0 0
  refine y_aload 5 dL_mark_0 rfl ?_
  refine y_iconst (v := (nI 0)) dL_mark_2 rfl ?_
  refine y_aload_n 0 dL_mark_3 rfl rfl ?_
  refine y_iload_n 1 dL_mark_4 rfl rfl ?_
  refine y_iload_n 2 dL_mark_5 rfl rfl ?_
  refine y_iload_n 3 dL_mark_6 rfl rfl ?_
  refine y_iload 4 dL_mark_7 rfl ?_
  rcases k with k | ⟨k, hp⟩
  · refine y_callV (M2 := M_X9_mark) (ci := 10) (n := 4) (As := [.int a, .int b, .int c, .int d]) rfl wV_L_mark (by decide +kernel) (by decide) rfl rfl (Nat.le_of_ble_eq_true rfl) dL_mark_9 hS (by decide) (by decide) (Ct.imp k (fun r h1 n1 V => ?_))
    obtain ⟨v, hv, rfl, f, hf, hp⟩ := V
    show BlkY g M_L_mark (KH g [(0, 21, 24, 13)]) (ZR g M_L_mark post) 12 [(0, .ref S), (1, .int a), (2, .int b), (3, .int c), (4, .int d), (5, .ref ob)] [.int (nI v), .int (nI 0), .ref ob] h1 n1 1 6
    refine y_if_eqN (tgt := 19) dL_mark_12 (by decide) (by omega) (fun c => ?_) (fun c => ?_)
    · subst c
      refine y_lconst (v := (lN 0)) dL_mark_19 rfl ?_
      refine y_last dL_mark_20 hf (j := 0) rfl (by decide) (by decide) ?_
      refine y_goto (tgt := 28) dL_mark_21 (by decide) ?_
      refine y_iconst (v := (nI 0)) dL_mark_28 rfl ?_
      exact y_iret dL_mark_29 rfl (by decide) (by decide) hp
    · have e : v = 1 := by omega
      subst e
      refine y_lconst (v := (lN 1)) dL_mark_15 rfl ?_
      refine y_goto (tgt := 20) dL_mark_16 (by decide) ?_
      refine y_last dL_mark_20 hf (j := 0) rfl (by decide) (by decide) ?_
      refine y_goto (tgt := 28) dL_mark_21 (by decide) ?_
      refine y_iconst (v := (nI 0)) dL_mark_28 rfl ?_
      exact y_iret dL_mark_29 rfl (by decide) (by decide) hp
  · refine y_callVC (b0 := 0) (b1 := 21) (b2 := 24) (b3 := 13) (M2 := M_X9_mark) (ci := 10) (n := 4) (As := [.int a, .int b, .int c, .int d]) rfl wV_L_mark (by decide +kernel) (by decide) rfl rfl (Nat.le_of_ble_eq_true rfl) dL_mark_9 hS (by decide) (by decide) (by decide) (by decide) wCl_L k (fun x => ?_)
    show BlkY g M_L_mark (KH g [(0, 21, 24, 13)]) (ZR g M_L_mark post) 24 [(0, .ref S), (1, .int a), (2, .int b), (3, .int c), (4, .int d), (5, .ref ob)] [.ref x] h (nx + 1) 1 6
    refine y_astore (L' := [(6, .ref x), (0, .ref S), (1, .int a), (2, .int b), (3, .int c), (4, .int d), (5, .ref ob)]) dL_mark_24 (by decide) rfl ?_
    refine y_iconst (v := (nI 1)) dL_mark_26 rfl ?_
    exact y_iret dL_mark_27 rfl (by decide) (by decide) hp
abbrev M_L_count : xM := (yL_count, cL_count, 5, (some .int), { frames := 10, cells := 2, slots := 12, locals := 200 })
theorem dL_count_0 : decode cL_count 0 = .ok (.aload_n 3, 1) := by decide +kernel
theorem dL_count_1 : decode cL_count 1 = .ok (.iconst 0, 1) := by decide +kernel
theorem dL_count_2 : decode cL_count 2 = .ok (.aload_n 0, 1) := by decide +kernel
theorem dL_count_3 : decode cL_count 3 = .ok (.iload_n 1, 1) := by decide +kernel
theorem dL_count_4 : decode cL_count 4 = .ok (.iload_n 2, 1) := by decide +kernel
theorem dL_count_5 : decode cL_count 5 = .ok (.invokevirtual 15, 3) := by decide +kernel
theorem dL_count_8 : decode cL_count 8 = .ok (.i2l, 1) := by decide +kernel
theorem dL_count_9 : decode cL_count 9 = .ok (.lastore, 1) := by decide +kernel
theorem dL_count_10 : decode cL_count 10 = .ok (.goto 7, 3) := by decide +kernel
theorem dL_count_13 : decode cL_count 13 = .ok (.astore 4, 2) := by decide +kernel
theorem dL_count_15 : decode cL_count 15 = .ok (.iconst 1, 1) := by decide +kernel
theorem dL_count_16 : decode cL_count 16 = .ok (.ireturn, 1) := by decide +kernel
theorem dL_count_17 : decode cL_count 17 = .ok (.iconst 0, 1) := by decide +kernel
theorem dL_count_18 : decode cL_count 18 = .ok (.ireturn, 1) := by decide +kernel
set_option maxRecDepth 20000 in
theorem wV_L_count : ∀ w ∈ [Cond.methodLink "StateSharesLaw" 15 (yX9_count), .instanceMethod (yX9_count), .selects "StateShares" (yX9_count) (yX9_count), .initialized "StateShares", xcode M_X9_count], w ∈ lw_gd := by decide +kernel
theorem w_count {g : xG} {post : xPost} {h : xHp} {nx S ob : Nat} {fs : List Value} {a b : Int32} (hS : h S = some (xo 10 fs)) (k : Ct g M_X9_count [.ref S, .int a, .int b] h nx (fun r h1 n1 => ∃ v : Int32, r = some (.int v) ∧ ∃ f, h1 ob = some (xla 1 f) ∧ post (some (.int (nI 0))) (xup h1 ob (xla 1 (va_up f 0 v.toInt64))) n1) ∨ (CtT g M_X9_count [.ref S, .int a, .int b] h nx ∧ post (some (.int (nI 1))) h (nx + 1))) : CtW g M_L_count [(0, 10, 13, 13)] [.ref S, .int a, .int b, .ref ob] h nx post := by
  refine CtW.of (by decide +kernel) (Nat.le_of_ble_eq_true rfl) ?_
  show BlkY g M_L_count (KH g [(0, 10, 13, 13)]) (ZR g M_L_count post) 0 [(0, .ref S), (1, .int a), (2, .int b), (3, .ref ob)] [] h nx 0 0
  refine y_aload_n 3 dL_count_0 rfl rfl ?_
  refine y_iconst (v := (nI 0)) dL_count_1 rfl ?_
  refine y_aload_n 0 dL_count_2 rfl rfl ?_
  refine y_iload_n 1 dL_count_3 rfl rfl ?_
  refine y_iload_n 2 dL_count_4 rfl rfl ?_
  rcases k with k | ⟨k, hp⟩
  · refine y_callV (M2 := M_X9_count) (ci := 10) (n := 2) (As := [.int a, .int b]) rfl wV_L_count (by decide +kernel) (by decide) rfl rfl (Nat.le_of_ble_eq_true rfl) dL_count_5 hS (by decide) (by decide) (Ct.imp k (fun r h1 n1 V => ?_))
    obtain ⟨v, rfl, f, hf, hp⟩ := V
    show BlkY g M_L_count (KH g [(0, 10, 13, 13)]) (ZR g M_L_count post) 8 [(0, .ref S), (1, .int a), (2, .int b), (3, .ref ob)] [.int v, .int (nI 0), .ref ob] h1 n1 2 12
    refine y_i2l dL_count_8 ?_
    refine y_last dL_count_9 hf (j := 0) rfl (by decide) (by decide) ?_
    refine y_goto (tgt := 17) dL_count_10 (by decide) ?_
    refine y_iconst (v := (nI 0)) dL_count_17 rfl ?_
    exact y_iret dL_count_18 rfl (by decide) (by decide) hp
  · refine y_callVC (b0 := 0) (b1 := 10) (b2 := 13) (b3 := 13) (M2 := M_X9_count) (ci := 10) (n := 2) (As := [.int a, .int b]) rfl wV_L_count (by decide +kernel) (by decide) rfl rfl (Nat.le_of_ble_eq_true rfl) dL_count_5 hS (by decide) (by decide) (by decide) (by decide) wCl_L k (fun x => ?_)
    show BlkY g M_L_count (KH g [(0, 10, 13, 13)]) (ZR g M_L_count post) 13 [(0, .ref S), (1, .int a), (2, .int b), (3, .ref ob)] [.ref x] h (nx + 1) 2 12
    refine y_astore (L' := [(4, .ref x), (0, .ref S), (1, .int a), (2, .int b), (3, .ref ob)]) dL_count_13 (by decide) rfl ?_
    refine y_iconst (v := (nI 1)) dL_count_15 rfl ?_
    exact y_iret dL_count_16 rfl (by decide) (by decide) hp
abbrev M_L_share : xM := (yL_share, cL_share, 6, (some .int), { frames := 10, cells := 2, slots := 12, locals := 200 })
theorem dL_share_0 : decode cL_share 0 = .ok (.aload 4, 2) := by decide +kernel
theorem dL_share_2 : decode cL_share 2 = .ok (.iconst 0, 1) := by decide +kernel
theorem dL_share_3 : decode cL_share 3 = .ok (.aload_n 0, 1) := by decide +kernel
theorem dL_share_4 : decode cL_share 4 = .ok (.iload_n 1, 1) := by decide +kernel
theorem dL_share_5 : decode cL_share 5 = .ok (.iload_n 2, 1) := by decide +kernel
theorem dL_share_6 : decode cL_share 6 = .ok (.iload_n 3, 1) := by decide +kernel
theorem dL_share_7 : decode cL_share 7 = .ok (.invokevirtual 19, 3) := by decide +kernel
theorem dL_share_10 : decode cL_share 10 = .ok (.lastore, 1) := by decide +kernel
theorem dL_share_11 : decode cL_share 11 = .ok (.goto 7, 3) := by decide +kernel
theorem dL_share_14 : decode cL_share 14 = .ok (.astore 5, 2) := by decide +kernel
theorem dL_share_16 : decode cL_share 16 = .ok (.iconst 1, 1) := by decide +kernel
theorem dL_share_17 : decode cL_share 17 = .ok (.ireturn, 1) := by decide +kernel
theorem dL_share_18 : decode cL_share 18 = .ok (.iconst 0, 1) := by decide +kernel
theorem dL_share_19 : decode cL_share 19 = .ok (.ireturn, 1) := by decide +kernel
set_option maxRecDepth 20000 in
theorem wV_L_share : ∀ w ∈ [Cond.methodLink "StateSharesLaw" 19 (yX9_share), .instanceMethod (yX9_share), .selects "StateShares" (yX9_share) (yX9_share), .initialized "StateShares", xcode M_X9_share], w ∈ lw_gd := by decide +kernel
theorem w_share {g : xG} {post : xPost} {h : xHp} {nx S ob : Nat} {fs : List Value} {a b c : Int32} (hS : h S = some (xo 10 fs)) (k : Ct g M_X9_share [.ref S, .int a, .int b, .int c] h nx (fun r h1 n1 => ∃ v : Int64, r = some (.long v) ∧ ∃ f, h1 ob = some (xla 1 f) ∧ post (some (.int (nI 0))) (xup h1 ob (xla 1 (va_up f 0 v))) n1) ∨ (CtT g M_X9_share [.ref S, .int a, .int b, .int c] h nx ∧ post (some (.int (nI 1))) h (nx + 1))) : CtW g M_L_share [(0, 11, 14, 13)] [.ref S, .int a, .int b, .int c, .ref ob] h nx post := by
  refine CtW.of (by decide +kernel) (Nat.le_of_ble_eq_true rfl) ?_
  show BlkY g M_L_share (KH g [(0, 11, 14, 13)]) (ZR g M_L_share post) 0 [(0, .ref S), (1, .int a), (2, .int b), (3, .int c), (4, .ref ob)] [] h nx 0 0
  refine y_aload 4 dL_share_0 rfl ?_
  refine y_iconst (v := (nI 0)) dL_share_2 rfl ?_
  refine y_aload_n 0 dL_share_3 rfl rfl ?_
  refine y_iload_n 1 dL_share_4 rfl rfl ?_
  refine y_iload_n 2 dL_share_5 rfl rfl ?_
  refine y_iload_n 3 dL_share_6 rfl rfl ?_
  rcases k with k | ⟨k, hp⟩
  · refine y_callV (M2 := M_X9_share) (ci := 10) (n := 3) (As := [.int a, .int b, .int c]) rfl wV_L_share (by decide +kernel) (by decide) rfl rfl (Nat.le_of_ble_eq_true rfl) dL_share_7 hS (by decide) (by decide) (Ct.imp k (fun r h1 n1 V => ?_))
    obtain ⟨v, rfl, f, hf, hp⟩ := V
    show BlkY g M_L_share (KH g [(0, 11, 14, 13)]) (ZR g M_L_share post) 10 [(0, .ref S), (1, .int a), (2, .int b), (3, .int c), (4, .ref ob)] [.long v, .int (nI 0), .ref ob] h1 n1 2 12
    refine y_last dL_share_10 hf (j := 0) rfl (by decide) (by decide) ?_
    refine y_goto (tgt := 18) dL_share_11 (by decide) ?_
    refine y_iconst (v := (nI 0)) dL_share_18 rfl ?_
    exact y_iret dL_share_19 rfl (by decide) (by decide) hp
  · refine y_callVC (b0 := 0) (b1 := 11) (b2 := 14) (b3 := 13) (M2 := M_X9_share) (ci := 10) (n := 3) (As := [.int a, .int b, .int c]) rfl wV_L_share (by decide +kernel) (by decide) rfl rfl (Nat.le_of_ble_eq_true rfl) dL_share_7 hS (by decide) (by decide) (by decide) (by decide) wCl_L k (fun x => ?_)
    show BlkY g M_L_share (KH g [(0, 11, 14, 13)]) (ZR g M_L_share post) 14 [(0, .ref S), (1, .int a), (2, .int b), (3, .int c), (4, .ref ob)] [.ref x] h (nx + 1) 2 12
    refine y_astore (L' := [(5, .ref x), (0, .ref S), (1, .int a), (2, .int b), (3, .int c), (4, .ref ob)]) dL_share_14 (by decide) rfl ?_
    refine y_iconst (v := (nI 1)) dL_share_16 rfl ?_
    exact y_iret dL_share_17 rfl (by decide) (by decide) hp
abbrev M_L_at : xM := (yL_at, cL_at, 6, (some .int), { frames := 10, cells := 2, slots := 12, locals := 200 })
theorem dL_at_0 : decode cL_at 0 = .ok (.aload 4, 2) := by decide +kernel
theorem dL_at_2 : decode cL_at 2 = .ok (.iconst 0, 1) := by decide +kernel
theorem dL_at_3 : decode cL_at 3 = .ok (.aload_n 0, 1) := by decide +kernel
theorem dL_at_4 : decode cL_at 4 = .ok (.iload_n 1, 1) := by decide +kernel
theorem dL_at_5 : decode cL_at 5 = .ok (.iload_n 2, 1) := by decide +kernel
theorem dL_at_6 : decode cL_at 6 = .ok (.iload_n 3, 1) := by decide +kernel
theorem dL_at_7 : decode cL_at 7 = .ok (.invokevirtual 23, 3) := by decide +kernel
theorem dL_at_10 : decode cL_at 10 = .ok (.lastore, 1) := by decide +kernel
theorem dL_at_11 : decode cL_at 11 = .ok (.goto 7, 3) := by decide +kernel
theorem dL_at_14 : decode cL_at 14 = .ok (.astore 5, 2) := by decide +kernel
theorem dL_at_16 : decode cL_at 16 = .ok (.iconst 1, 1) := by decide +kernel
theorem dL_at_17 : decode cL_at 17 = .ok (.ireturn, 1) := by decide +kernel
theorem dL_at_18 : decode cL_at 18 = .ok (.iconst 0, 1) := by decide +kernel
theorem dL_at_19 : decode cL_at 19 = .ok (.ireturn, 1) := by decide +kernel
set_option maxRecDepth 20000 in
theorem wV_L_at : ∀ w ∈ [Cond.methodLink "StateSharesLaw" 23 (yX9_at), .instanceMethod (yX9_at), .selects "StateShares" (yX9_at) (yX9_at), .initialized "StateShares", xcode M_X9_at], w ∈ lw_gd := by decide +kernel
theorem w_at {g : xG} {post : xPost} {h : xHp} {nx S ob : Nat} {fs : List Value} {a b c : Int32} (hS : h S = some (xo 10 fs)) (k : Ct g M_X9_at [.ref S, .int a, .int b, .int c] h nx (fun r h1 n1 => ∃ v : Int64, r = some (.long v) ∧ ∃ f, h1 ob = some (xla 1 f) ∧ post (some (.int (nI 0))) (xup h1 ob (xla 1 (va_up f 0 v))) n1) ∨ (CtT g M_X9_at [.ref S, .int a, .int b, .int c] h nx ∧ post (some (.int (nI 1))) h (nx + 1))) : CtW g M_L_at [(0, 11, 14, 13)] [.ref S, .int a, .int b, .int c, .ref ob] h nx post := by
  refine CtW.of (by decide +kernel) (Nat.le_of_ble_eq_true rfl) ?_
  show BlkY g M_L_at (KH g [(0, 11, 14, 13)]) (ZR g M_L_at post) 0 [(0, .ref S), (1, .int a), (2, .int b), (3, .int c), (4, .ref ob)] [] h nx 0 0
  refine y_aload 4 dL_at_0 rfl ?_
  refine y_iconst (v := (nI 0)) dL_at_2 rfl ?_
  refine y_aload_n 0 dL_at_3 rfl rfl ?_
  refine y_iload_n 1 dL_at_4 rfl rfl ?_
  refine y_iload_n 2 dL_at_5 rfl rfl ?_
  refine y_iload_n 3 dL_at_6 rfl rfl ?_
  rcases k with k | ⟨k, hp⟩
  · refine y_callV (M2 := M_X9_at) (ci := 10) (n := 3) (As := [.int a, .int b, .int c]) rfl wV_L_at (by decide +kernel) (by decide) rfl rfl (Nat.le_of_ble_eq_true rfl) dL_at_7 hS (by decide) (by decide) (Ct.imp k (fun r h1 n1 V => ?_))
    obtain ⟨v, rfl, f, hf, hp⟩ := V
    show BlkY g M_L_at (KH g [(0, 11, 14, 13)]) (ZR g M_L_at post) 10 [(0, .ref S), (1, .int a), (2, .int b), (3, .int c), (4, .ref ob)] [.long v, .int (nI 0), .ref ob] h1 n1 1 6
    refine y_last dL_at_10 hf (j := 0) rfl (by decide) (by decide) ?_
    refine y_goto (tgt := 18) dL_at_11 (by decide) ?_
    refine y_iconst (v := (nI 0)) dL_at_18 rfl ?_
    exact y_iret dL_at_19 rfl (by decide) (by decide) hp
  · refine y_callVC (b0 := 0) (b1 := 11) (b2 := 14) (b3 := 13) (M2 := M_X9_at) (ci := 10) (n := 3) (As := [.int a, .int b, .int c]) rfl wV_L_at (by decide +kernel) (by decide) rfl rfl (Nat.le_of_ble_eq_true rfl) dL_at_7 hS (by decide) (by decide) (by decide) (by decide) wCl_L k (fun x => ?_)
    show BlkY g M_L_at (KH g [(0, 11, 14, 13)]) (ZR g M_L_at post) 14 [(0, .ref S), (1, .int a), (2, .int b), (3, .int c), (4, .ref ob)] [.ref x] h (nx + 1) 1 6
    refine y_astore (L' := [(5, .ref x), (0, .ref S), (1, .int a), (2, .int b), (3, .int c), (4, .ref ob)]) dL_at_14 (by decide) rfl ?_
    refine y_iconst (v := (nI 1)) dL_at_16 rfl ?_
    exact y_iret dL_at_17 rfl (by decide) (by decide) hp
