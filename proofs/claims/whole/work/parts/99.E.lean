section TM
variable {g : xG} {h : xHp} {nx : Nat}
theorem n_bad {n : Nat} {x : Int32} (hn : n ≤ 6) (hb : ∀ t, t < n → ¬ x = nI t) : x < 0 ∨ nI n ≤ x := by
  rcases pk_ix x (show n < 2 ^ 31 by omega) with z | z | ⟨j, hj, hx⟩
  · exact Or.inl z
  · exact Or.inr z
  · exact absurd hx (hb j hj)
theorem Ss.obj {S n len lm ft : Nat} {mk : Nat → Option Nat} {kd tx A Bs : Nat → Nat} {R : Rl} {wk ev : Tr} {w : Nat → Int} (hX : Ss h S n mk kd tx len R lm ft A Bs wk ev w) : ∃ old, h S = some (ssO S n old) := by
  obtain ⟨old, gr, C, T, G, P, B, kn, hG, hX⟩ := hX
  obtain ⟨ws, we, nw, nxt, hd, dr, D, so, ch, cu, wy, wg, p, W, e, ku, kl, vu, vl, ⟨x1, -⟩, -⟩ := hX
  exact ⟨old, x1⟩
theorem t_mark {S n old t y i : Nat} {d : Int32} (htr : (gL g).stackTraces = false) (hn : n ≤ 6) (x1 : h S = some (ssO S n old)) (ht : t < 10) (hy : y < 12) (hi : i < 4) (hd : ∀ s, s < n → ¬ d = nI s) : CtT g M_X9_mark [.ref S, .int (nI t), .int (nI y), .int (nI i), .int d] h nx := by
  refine CtT.of (by decide +kernel) (Nat.le_of_ble_eq_true rfl) ?_
  show BlkY g M_X9_mark (KN g) (ZT g M_X9_mark h (nx + 1)) 0 [(0, .ref S), (1, .int (nI t)), (2, .int (nI y)), (3, .int (nI i)), (4, .int d)] [] h nx 0 0
  refine y_iload_n 1 dX9_mark_0 rfl rfl ?_
  refine y_callS (M2 := M_X9_isThing) (n := 1) (As := [.int (nI t)]) (wl4 wM_X9_68 ws_X9_isThing wI_StateShares wc_X9_isThing) (by decide +kernel) (by decide) rfl rfl (Nat.le_of_ble_eq_true rfl) dX9_mark_1 (by decide) (by decide) (c_isThing (fun _ _ _ => ?_) (fun z => absurd rfl (z t ht)))
  show BlkY g M_X9_mark (KN g) (ZT g M_X9_mark h (nx + 1)) 4 [(0, .ref S), (1, .int (nI t)), (2, .int (nI y)), (3, .int (nI i)), (4, .int d)] [.int (nI 1)] h nx 0 0
  refine y_if_eqN (tgt := 21) dX9_mark_4 (by decide) (by decide) (fun c => absurd c (by decide)) (fun _ => ?_)
  refine y_iload_n 2 dX9_mark_7 rfl rfl ?_
  refine y_callS (M2 := M_X9_isYear) (n := 1) (As := [.int (nI y)]) (wl4 wM_X9_72 ws_X9_isYear wI_StateShares wc_X9_isYear) (by decide +kernel) (by decide) rfl rfl (Nat.le_of_ble_eq_true rfl) dX9_mark_8 (by decide) (by decide) (c_isYear (fun _ _ _ => ?_) (fun z => absurd rfl (z y hy)))
  show BlkY g M_X9_mark (KN g) (ZT g M_X9_mark h (nx + 1)) 11 [(0, .ref S), (1, .int (nI t)), (2, .int (nI y)), (3, .int (nI i)), (4, .int d)] [.int (nI 1)] h nx 0 0
  refine y_if_eqN (tgt := 21) dX9_mark_11 (by decide) (by decide) (fun c => absurd c (by decide)) (fun _ => ?_)
  refine y_iload_n 3 dX9_mark_14 rfl rfl ?_
  refine y_callS (M2 := M_X9_isPerson) (n := 1) (As := [.int (nI i)]) (wl4 wM_X9_75 ws_X9_isPerson wI_StateShares wc_X9_isPerson) (by decide +kernel) (by decide) rfl rfl (Nat.le_of_ble_eq_true rfl) dX9_mark_15 (by decide) (by decide) (c_isPerson (fun _ _ _ => ?_) (fun z => absurd rfl (z i hi)))
  show BlkY g M_X9_mark (KN g) (ZT g M_X9_mark h (nx + 1)) 18 [(0, .ref S), (1, .int (nI t)), (2, .int (nI y)), (3, .int (nI i)), (4, .int d)] [.int (nI 1)] h nx 0 0
  refine y_if_neN (tgt := 23) dX9_mark_18 (by decide) (by decide) (fun _ => ?_) (fun c => absurd c (by decide))
  refine y_aload_n 0 dX9_mark_23 rfl rfl ?_
  refine y_iload 4 dX9_mark_24 rfl ?_
  exact y_callVL (M2 := M_X9_needState) (ci := 10) (n := 1) (As := [.int d]) rfl (wl5 wM_X9_78 wi_X9_needState wS_X9_needState wI_StateShares wc_X9_needState) (by decide +kernel) (by decide) rfl rfl (Nat.le_of_ble_eq_true rfl) dX9_mark_26 x1 (by decide) (by decide) (t_needState htr x1 (n_bad hn hd))
theorem t_at {S n old : Nat} {d a x : Int32} (htr : (gL g).stackTraces = false) (hn : n ≤ 6) (x1 : h S = some (ssO S n old)) (hd : ∀ s, s < n → ¬ d = nI s) : CtT g M_X9_at [.ref S, .int d, .int a, .int x] h nx := by
  refine CtT.of (by decide +kernel) (Nat.le_of_ble_eq_true rfl) ?_
  show BlkY g M_X9_at (KN g) (ZT g M_X9_at h (nx + 1)) 0 [(0, .ref S), (1, .int d), (2, .int a), (3, .int x)] [] h nx 0 0
  refine y_aload_n 0 dX9_at_0 rfl rfl ?_
  refine y_iload_n 1 dX9_at_1 rfl rfl ?_
  exact y_callVL (M2 := M_X9_needState) (ci := 10) (n := 1) (As := [.int d]) rfl (wl5 wM_X9_78 wi_X9_needState wS_X9_needState wI_StateShares wc_X9_needState) (by decide +kernel) (by decide) rfl rfl (Nat.le_of_ble_eq_true rfl) dX9_at_2 x1 (by decide) (by decide) (t_needState htr x1 (n_bad hn hd))
theorem t_count {S n old : Nat} {a b : Int32} (htr : (gL g).stackTraces = false) (hn : n ≤ 6) (x1 : h S = some (ssO S n old)) (hd : ¬ ∃ s t, s < n ∧ t < n ∧ a = nI s ∧ b = nI t) : CtT g M_X9_count [.ref S, .int a, .int b] h nx := by
  refine CtT.of (by decide +kernel) (Nat.le_of_ble_eq_true rfl) ?_
  show BlkY g M_X9_count (KN g) (ZT g M_X9_count h (nx + 1)) 0 [(0, .ref S), (1, .int a), (2, .int b)] [] h nx 0 0
  refine y_aload_n 0 dX9_count_0 rfl rfl ?_
  refine y_iload_n 1 dX9_count_1 rfl rfl ?_
  by_cases z : ∃ s, s < n ∧ a = nI s
  · obtain ⟨s, hs, e⟩ := z
    refine y_callV (M2 := M_X9_needState) (ci := 10) (n := 1) (As := [.int a]) rfl (wl5 wM_X9_78 wi_X9_needState wS_X9_needState wI_StateShares wc_X9_needState) (by decide +kernel) (by decide) rfl rfl (Nat.le_of_ble_eq_true rfl) dX9_count_2 x1 (by decide) (by decide) ?_
    subst e
    refine c_needOK x1 hn hs ?_
    show BlkY g M_X9_count (KN g) (ZT g M_X9_count h (nx + 1)) 5 [(0, .ref S), (1, .int (nI s)), (2, .int b)] [] h nx 1 6
    refine y_aload_n 0 dX9_count_5 rfl rfl ?_
    refine y_iload_n 2 dX9_count_6 rfl rfl ?_
    exact y_callVL (M2 := M_X9_needState) (ci := 10) (n := 1) (As := [.int b]) rfl (wl5 wM_X9_78 wi_X9_needState wS_X9_needState wI_StateShares wc_X9_needState) (by decide +kernel) (by decide) rfl rfl (Nat.le_of_ble_eq_true rfl) dX9_count_7 x1 (by decide) (by decide) (t_needState htr x1 (n_bad hn (fun t ht e2 => hd ⟨s, t, hs, ht, rfl, e2⟩)))
  · exact y_callVL (M2 := M_X9_needState) (ci := 10) (n := 1) (As := [.int a]) rfl (wl5 wM_X9_78 wi_X9_needState wS_X9_needState wI_StateShares wc_X9_needState) (by decide +kernel) (by decide) rfl rfl (Nat.le_of_ble_eq_true rfl) dX9_count_2 x1 (by decide) (by decide) (t_needState htr x1 (n_bad hn (fun s hs e => z ⟨s, hs, e⟩)))
theorem t_share {S n old : Nat} {a b x : Int32} (htr : (gL g).stackTraces = false) (hn : n ≤ 6) (x1 : h S = some (ssO S n old)) (hd : ¬ ∃ s t, s < n ∧ t < n ∧ a = nI s ∧ b = nI t) : CtT g M_X9_share [.ref S, .int a, .int b, .int x] h nx := by
  refine CtT.of (by decide +kernel) (Nat.le_of_ble_eq_true rfl) ?_
  show BlkY g M_X9_share (KN g) (ZT g M_X9_share h (nx + 1)) 0 [(0, .ref S), (1, .int a), (2, .int b), (3, .int x)] [] h nx 0 0
  refine y_aload_n 0 dX9_share_0 rfl rfl ?_
  refine y_iload_n 1 dX9_share_1 rfl rfl ?_
  by_cases z : ∃ s, s < n ∧ a = nI s
  · obtain ⟨s, hs, e⟩ := z
    refine y_callV (M2 := M_X9_needState) (ci := 10) (n := 1) (As := [.int a]) rfl (wl5 wM_X9_78 wi_X9_needState wS_X9_needState wI_StateShares wc_X9_needState) (by decide +kernel) (by decide) rfl rfl (Nat.le_of_ble_eq_true rfl) dX9_share_2 x1 (by decide) (by decide) ?_
    subst e
    refine c_needOK x1 hn hs ?_
    show BlkY g M_X9_share (KN g) (ZT g M_X9_share h (nx + 1)) 5 [(0, .ref S), (1, .int (nI s)), (2, .int b), (3, .int x)] [] h nx 1 6
    refine y_aload_n 0 dX9_share_5 rfl rfl ?_
    refine y_iload_n 2 dX9_share_6 rfl rfl ?_
    exact y_callVL (M2 := M_X9_needState) (ci := 10) (n := 1) (As := [.int b]) rfl (wl5 wM_X9_78 wi_X9_needState wS_X9_needState wI_StateShares wc_X9_needState) (by decide +kernel) (by decide) rfl rfl (Nat.le_of_ble_eq_true rfl) dX9_share_7 x1 (by decide) (by decide) (t_needState htr x1 (n_bad hn (fun t ht e2 => hd ⟨s, t, hs, ht, rfl, e2⟩)))
  · exact y_callVL (M2 := M_X9_needState) (ci := 10) (n := 1) (As := [.int a]) rfl (wl5 wM_X9_78 wi_X9_needState wS_X9_needState wI_StateShares wc_X9_needState) (by decide +kernel) (by decide) rfl rfl (Nat.le_of_ble_eq_true rfl) dX9_share_2 x1 (by decide) (by decide) (t_needState htr x1 (n_bad hn (fun s hs e => z ⟨s, hs, e⟩)))
end TM
