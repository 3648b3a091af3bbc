/-! the beginning -/
set_option maxRecDepth 20000 in
theorem wM_L_26 : Cond.methodLink "StateSharesLaw" 26 (yL_cell) ∈ lw_gd := lw_in 895 (by decide +kernel) rfl
set_option maxRecDepth 20000 in
theorem ws_L_cell : Cond.static (yL_cell) ∈ lw_gd := lw_in 896 (by decide +kernel) rfl
set_option maxRecDepth 20000 in
theorem wc_L_cell : Cond.code yL_cell cL_cell 2 (some .int) ∈ lw_gd := lw_in 897 (by decide +kernel) rfl
set_option maxRecDepth 20000 in
theorem wM_L_32 : Cond.methodLink "StateSharesLaw" 32 (yX9_init) ∈ lw_gd := lw_in 25 (by decide +kernel) rfl
set_option maxRecDepth 20000 in
theorem wi_X9_init : Cond.instanceMethod (yX9_init) ∈ lw_gd := lw_in 26 (by decide +kernel) rfl
set_option maxRecDepth 20000 in
theorem wc_X9_init : Cond.code yX9_init cX9_init 2 none ∈ lw_gd := lw_in 27 (by decide +kernel) rfl
set_option maxRecDepth 20000 in
theorem wM_L_37 : Cond.methodLink "StateSharesLaw" 37 (yX10_init) ∈ lw_gd := lw_in 1017 (by decide +kernel) rfl
set_option maxRecDepth 20000 in
theorem wi_X10_init : Cond.instanceMethod (yX10_init) ∈ lw_gd := lw_in 1018 (by decide +kernel) rfl
set_option maxRecDepth 20000 in
theorem wc_X10_init : Cond.code yX10_init cX10_init 6 none ∈ lw_gd := lw_in 1019 (by decide +kernel) rfl
set_option maxRecDepth 20000 in
theorem wC_L_8 : Cond.classLink "StateSharesLaw" 8 "StateShares" ∈ lw_gd := lw_in 23 (by decide +kernel) rfl
set_option maxRecDepth 20000 in
theorem wN_StateShares : Cond.instantiable "StateShares" 8 ∈ lw_gd := lw_in 24 (by decide +kernel) rfl
set_option maxRecDepth 20000 in
theorem wC_L_35 : Cond.classLink "StateSharesLaw" 35 "StateSharesModel" ∈ lw_gd := lw_in 1015 (by decide +kernel) rfl
set_option maxRecDepth 20000 in
theorem wN_StateSharesModel : Cond.instantiable "StateSharesModel" 33 ∈ lw_gd := lw_in 1016 (by decide +kernel) rfl
theorem dL_law_0 : decode cL_law 0 = .ok (.new 8, 3) := by decide +kernel
theorem dL_law_3 : decode cL_law 3 = .ok (.dup, 1) := by decide +kernel
theorem dL_law_4 : decode cL_law 4 = .ok (.aload_n 0, 1) := by decide +kernel
theorem dL_law_5 : decode cL_law 5 = .ok (.iconst 0, 1) := by decide +kernel
theorem dL_law_6 : decode cL_law 6 = .ok (.invokestatic 26, 3) := by decide +kernel
theorem dL_law_9 : decode cL_law 9 = .ok (.invokespecial 32, 3) := by decide +kernel
theorem dL_law_12 : decode cL_law 12 = .ok (.astore_n 1, 1) := by decide +kernel
theorem dL_law_13 : decode cL_law 13 = .ok (.new 35, 3) := by decide +kernel
theorem dL_law_16 : decode cL_law 16 = .ok (.dup, 1) := by decide +kernel
theorem dL_law_17 : decode cL_law 17 = .ok (.aload_n 0, 1) := by decide +kernel
theorem dL_law_18 : decode cL_law 18 = .ok (.iconst 0, 1) := by decide +kernel
theorem dL_law_19 : decode cL_law 19 = .ok (.invokestatic 26, 3) := by decide +kernel
theorem dL_law_22 : decode cL_law 22 = .ok (.invokespecial 37, 3) := by decide +kernel
theorem dL_law_25 : decode cL_law 25 = .ok (.astore_n 2, 1) := by decide +kernel
theorem dL_law_26 : decode cL_law 26 = .ok (.iconst 1, 1) := by decide +kernel
theorem dL_law_27 : decode cL_law 27 = .ok (.newarray .long, 2) := by decide +kernel
theorem dL_law_29 : decode cL_law 29 = .ok (.astore_n 3, 1) := by decide +kernel
theorem dL_law_30 : decode cL_law 30 = .ok (.iconst 1, 1) := by decide +kernel
theorem dL_law_31 : decode cL_law 31 = .ok (.istore 4, 2) := by decide +kernel
theorem df_fsI (m : Nat) : ∀ j, j < 33 → defaultValue (tyX10 j) = vp_V (fsI m 0) j := fun j hj => match j, hj with
  | 0, _ => rfl
  | 1, _ => rfl
  | 2, _ => rfl
  | 3, _ => rfl
  | 4, _ => rfl
  | 5, _ => rfl
  | 6, _ => rfl
  | 7, _ => rfl
  | 8, _ => rfl
  | 9, _ => rfl
  | 10, _ => rfl
  | 11, _ => rfl
  | 12, _ => rfl
  | 13, _ => rfl
  | 14, _ => rfl
  | 15, _ => rfl
  | 16, _ => rfl
  | 17, _ => rfl
  | 18, _ => rfl
  | 19, _ => rfl
  | 20, _ => rfl
  | 21, _ => rfl
  | 22, _ => rfl
  | 23, _ => rfl
  | 24, _ => rfl
  | 25, _ => rfl
  | 26, _ => rfl
  | 27, _ => rfl
  | 28, _ => rfl
  | 29, _ => rfl
  | 30, _ => rfl
  | 31, _ => rfl
  | 32, _ => rfl
  | j + 33, h => absurd h (by omega)
theorem law_start {g : xG} {b N : Nat} {xs : Nat → Int32} (htr : (gL g).stackTraces = false) (hN : N ≤ 4097) : BlkY g M_L_law (KL g b N xs) lw_Z 0 [(0, .ref b)] [] (fun _ => none) (gB g) 0 0 := by
  generalize gB g = S
  refine y_new (ci := 10) (N := 8) (fs := [.int (nI 0), .null, .null, .null, .null, .null, .null, .int (nI 0)]) (T := TX9) rfl in_X9 tyX9_ok wC_L_8 wN_StateShares wI_StateShares dL_law_0 df_X9 (by decide) (by decide) ?_
  refine y_dup dL_law_3 rfl ?_
  refine y_aload_n 0 dL_law_4 rfl rfl ?_
  refine y_iconst (v := (nI 0)) dL_law_5 rfl ?_
  refine y_callSS (M2 := M_L_cell) (n := 2) (As := [.ref b, .int (nI 0)]) (fun _ _ _ z => z.2.1) (wl4 wM_L_26 ws_L_cell wI_StateSharesLaw wc_L_cell) (by decide +kernel) (by decide) rfl rfl (Nat.le_of_ble_eq_true rfl) dL_law_6 (by decide) (by decide) (c_cell (by omega) ?_)
  generalize hx : (if N ≤ 0 then nI 0 else xs 0) = x
  show BlkY g M_L_law (KL g b N xs) lw_Z 9 [(0, .ref b)] [.int x, .ref S, .ref S] (xup (fun _ => none) S (xo 10 [.int (nI 0), .null, .null, .null, .null, .null, .null, .int (nI 0)])) (S + 1) 1 8
  refine y_callI (M2 := M_X9_init) (n := 1) (As := [.int x]) (wl4 wM_L_32 wi_X9_init wI_StateShares wc_X9_init) rfl rfl (by decide +kernel) (by decide) rfl rfl (Nat.le_of_ble_eq_true rfl) dL_law_9 (by decide) (by decide) (c_SsInit S rfl (xup_s _ _ _) (fun h1 Bs hX hB hO => ?_))
  show BlkY g M_L_law (KL g b N xs) lw_Z 12 [(0, .ref b)] [.ref S] h1 (S + 491 + 24 * clampN x) 641 32509
  have hn := (clampN_ok x).1
  refine y_astore_n (L' := [(1, .ref S), (0, .ref b)]) dL_law_12 rfl (by decide) rfl ?_
  generalize hm : S + 491 + 24 * clampN x = m
  refine y_new (ci := 11) (N := 33) (fs := fsI m 0) (T := TX10) rfl in_X10 tyX10_ok wC_L_35 wN_StateSharesModel wI_StateSharesModel dL_law_13 (df_fsI m) (by decide) (by decide) ?_
  refine y_dup dL_law_16 rfl ?_
  refine y_aload_n 1 dL_law_17 rfl rfl ?_
  refine y_iconst (v := (nI 0)) dL_law_18 rfl ?_
  refine y_callSS (M2 := M_L_cell) (n := 2) (As := [.ref b, .int (nI 0)]) (fun _ _ _ z => z.2.1) (wl4 wM_L_26 ws_L_cell wI_StateSharesLaw wc_L_cell) (by decide +kernel) (by decide) rfl rfl (Nat.le_of_ble_eq_true rfl) dL_law_19 (by decide) (by decide) (c_cell (by omega) ?_)
  rw [hx]
  show BlkY g M_L_law (KL g b N xs) lw_Z 22 [(1, .ref S), (0, .ref b)] [.int x, .ref m, .ref m] (xup h1 m (xo 11 (fsI m 0))) (m + 1) 642 32542
  refine y_callI (M2 := M_X10_init) (n := 1) (As := [.int x]) (wl4 wM_L_37 wi_X10_init wI_StateSharesModel wc_X10_init) rfl rfl (by decide +kernel) (by decide) rfl rfl (Nat.le_of_ble_eq_true rfl) dL_law_22 (by decide) (by decide) (c_ModInit m rfl (xup_s _ _ _) (fun h2 s hM hR hO2 => ?_))
  show BlkY g M_L_law (KL g b N xs) lw_Z 25 [(1, .ref S), (0, .ref b)] [.ref m] h2 (m + 22) 663 62606
  refine y_astore_n (L' := [(2, .ref m), (1, .ref S), (0, .ref b)]) dL_law_25 rfl (by decide) rfl ?_
  refine y_iconst (v := (nI 1)) dL_law_26 rfl ?_
  refine y_newl (N := 1) wA_long dL_law_27 rfl (by decide) (by decide) (by decide) ?_
  refine y_astore_n (L' := [(3, .ref (m + 22)), (2, .ref m), (1, .ref S), (0, .ref b)]) dL_law_29 rfl (by decide) rfl ?_
  refine y_iconst (v := (nI 1)) dL_law_30 rfl ?_
  refine y_istore (L' := [(4, .int (nI 1)), (3, .ref (m + 22)), (2, .ref m), (1, .ref S), (0, .ref b)]) dL_law_31 (by decide) rfl ?_
  refine BlkY.sub [4, 3, 2, 1, 0] rfl (law_loop (n := clampN x) htr hN N 1 664 62607 (m + 22 + 1) _ (by omega) (by omega) (by omega) (by omega) ?_)
  refine ⟨mk0, fun _ => 0, fun _ => 0, 0, rlS, 0, 0, A0, Bs, tr0, tr0, fun _ => 0, s, fun _ => lN 0, ss0 hn hB, hX.ofq (fun q z1 z2 => ?_), hM.ofq (fun q z1 z2 => xup_n (by omega)), hR Bs hB, xup_s _ _ _, by omega, Nat.le_refl _⟩
  exact (xup_n (by omega)).trans ((hO2 q (Or.inl (by omega))).trans (xup_n (by omega)))
