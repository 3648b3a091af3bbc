/-! StateShares: made -/
theorem sm_zero : ∀ n, sm (fun _ => 0) n = 0
  | 0 => rfl
  | n + 1 => by show sm (fun _ => 0) n + 0 = 0; rw [sm_zero n]
theorem ss0 {n : Nat} {Bs : Nat → Nat} (hn : 2 ≤ n ∧ n ≤ 6) (hB : ∀ s, s < 6 → Bs s = 1) : ssI n mk0 (fun _ => 0) (fun _ => 0) 0 rlS 0 0 A0 Bs tr0 tr0 (fun _ => 0) := by
  have tOK : trsOK n tr0 := fun y hy => ⟨Nat.zero_le _, fun i hi => absurd hi (Nat.not_lt_zero _)⟩
  refine ⟨hn, fun i s hi hs => ?_, fun _ _ => Nat.zero_le _, ⟨by decide, fun i hi => absurd hi (by omega)⟩, ⟨by decide, fun i hi => ?_⟩, by decide, by decide, fun s hs => ?_, tOK, tOK, fun _ _ => Nat.zero_le _⟩
  · unfold mk0 at hs
    rw [if_pos hi] at hs
    cases hs
  · have : i = 0 := by
      have hi : i < 1 := hi
      omega
    subst this
    exact ⟨by decide, by decide, by decide, by decide, Or.inr (Or.inl rfl)⟩
  · rw [hB s (by omega)]
    refine ⟨by decide, by decide, ?_⟩
    unfold A0
    by_cases z : s = 0
    · subst z; rw [up_s]; exact Nat.le_refl _
    · rw [up_n z]; decide
theorem grOK0 : grOK mk0 rlS gr0 := by
  intro i hi
  unfold gr0
  rw [if_pos hi]
  rw [grd_congr (m' := fun _ => none) (fun p hp => by
    show mk0 (i * 4 + p) = none
    unfold mk0
    rw [if_pos (by omega)])]
  rfl
section SS9
variable {g : xG} {post : xPost} {h : xHp} {nx : Nat}
theorem c_SsInit {x : Int32} (S : Nat) (hnx : S + 1 = nx) (h0 : h S = some (xo 10 [.int (nI 0), .null, .null, .null, .null, .null, .null, .int (nI 0)])) (hp : ∀ h' Bs, Ss h' S (clampN x) mk0 (fun _ => 0) (fun _ => 0) 0 rlS 0 0 A0 Bs tr0 tr0 (fun _ => 0) → (∀ s, s < 6 → Bs s = 1) → Off S (491 + 24 * clampN x) h h' → post none h' (S + 491 + 24 * clampN x)) : Ct g M_X9_init [.ref S, .int x] h nx post := by
  subst hnx
  obtain ⟨hn, ec⟩ := clampN_ok x
  refine Ct.of (by decide +kernel) (Nat.le_of_ble_eq_true rfl) (v_X9_init_0 ⟨h0, clampN x, ec, by omega, c_RuInit _ rfl (xup_s _ _ _) (fun h1 hU1 hO1 => ?_)⟩)
  generalize hnn : clampN x = n at *
  have n1 : S + 1 + 16 = S + 17 := by omega
  rw [n1]
  have c1 : h1 S = some (xo 10 [.int (nI n), .null, .null, .null, .null, .null, .null, .int (nI 0)]) := (hO1 S (by omega)).trans ((xup_n (by omega)).trans (xup_s _ _ _))
  refine ⟨rfl, _, c1, c_MkInit _ rfl (xup_s _ _ _) (fun h2 hK2 hO2 => ?_)⟩
  have n2 : S + 17 + 5 = S + 22 := by omega
  rw [n2]
  have c2 : h2 S = some (xo 10 [.int (nI n), .ref (S + 1), .null, .null, .null, .null, .null, .int (nI 0)]) := (hO2 S (by omega)).trans ((xup_n (by omega)).trans (xup_s _ _ _))
  refine ⟨rfl, _, _, c2, by omega, c_MovInit _ rfl (xup_s _ _ _) (fun h3 hM3 hO3 => ?_)⟩
  have n3 : S + 22 + 6 = S + 28 := by omega
  rw [n3]
  have c3 : h3 S = some (xo 10 [.int (nI n), .ref (S + 1), .ref (S + 17), .null, .null, .null, .null, .int (nI 0)]) := (hO3 S (by omega)).trans ((xup_n (by omega)).trans (xup_s _ _ _))
  refine ⟨rfl, _, _, _, c3, c_TrInit _ rfl (xup_s _ _ _) (fun h4 hT4 hO4 => ?_)⟩
  have n4 : S + 28 + 6 = S + 34 := by omega
  rw [n4]
  have c4 : h4 S = some (xo 10 [.int (nI n), .ref (S + 1), .ref (S + 17), .ref (S + 22), .null, .null, .null, .int (nI 0)]) := (hO4 S (by omega)).trans ((xup_n (by omega)).trans (xup_s _ _ _))
  refine ⟨rfl, _, _, _, _, c4, c_TrInit _ rfl (xup_s _ _ _) (fun h5 hT5 hO5 => ?_)⟩
  have n5 : S + 34 + 6 = S + 40 := by omega
  rw [n5]
  have c5 : h5 S = some (xo 10 [.int (nI n), .ref (S + 1), .ref (S + 17), .ref (S + 22), .ref (S + 28), .null, .null, .int (nI 0)]) := (hO5 S (by omega)).trans ((xup_n (by omega)).trans (xup_s _ _ _))
  refine ⟨rfl, _, _, _, _, _, c5, by omega, c_ForInit rfl hn (xup_s _ _ _) (fun h6 Bs hF6 hB6 hO6 => ?_)⟩
  have n6 : S + 40 + 451 + 24 * n = S + 491 + 24 * n := by omega
  rw [n6]
  have c6 : h6 S = some (xo 10 [.int (nI n), .ref (S + 1), .ref (S + 17), .ref (S + 22), .ref (S + 28), .ref (S + 34), .null, .int (nI 0)]) := (hO6 S (by omega)).trans ((xup_n (by omega)).trans (xup_s _ _ _))
  have o7 : ∀ q, ¬ q = S → xup h6 S (ssO S n 1) q = h6 q := fun q a => xup_n a
  have o6 : ∀ q, ¬ q = S → q < S + 40 → xup h6 S (ssO S n 1) q = h5 q := fun q a b => (o7 q a).trans ((hO6 q (by omega)).trans ((xup_n (by omega)).trans (xup_n a)))
  have o5 : ∀ q, ¬ q = S → q < S + 34 → xup h6 S (ssO S n 1) q = h4 q := fun q a b => (o6 q a (by omega)).trans ((hO5 q (by omega)).trans ((xup_n (by omega)).trans (xup_n a)))
  have o4 : ∀ q, ¬ q = S → q < S + 28 → xup h6 S (ssO S n 1) q = h3 q := fun q a b => (o5 q a (by omega)).trans ((hO4 q (by omega)).trans ((xup_n (by omega)).trans (xup_n a)))
  have o3 : ∀ q, ¬ q = S → q < S + 22 → xup h6 S (ssO S n 1) q = h2 q := fun q a b => (o4 q a (by omega)).trans ((hO3 q (by omega)).trans ((xup_n (by omega)).trans (xup_n a)))
  have o2 : ∀ q, ¬ q = S → q < S + 17 → xup h6 S (ssO S n 1) q = h1 q := fun q a b => (o3 q a (by omega)).trans ((hO2 q (by omega)).trans ((xup_n (by omega)).trans (xup_n a)))
  have z0 : ∀ (t : Nat) (hh : xHp), TrAt hh t (fun _ => 0) (fun _ => 0) (fun _ => 0) (fun _ => 0) (fun _ => 0) → TrsAt hh t tr0 := fun t hh k => ⟨fun _ => 0, fun _ => 0, k, fun y hy i hi => absurd hi (Nat.not_lt_zero _)⟩
  refine ⟨rfl, _, _, _, _, _, _, c6, hp _ Bs ⟨1, gr0, fun _ => 0, fun _ => 0, fun _ => 0, fun _ => 0, fun _ => 0, 0, grOK0, ?_⟩ hB6 ?_⟩
  · refine ⟨fun _ => 0, fun _ => 0, 0, 0, _, _, rl0, fun _ => 0, 0, 12, -1, nI 0, fun _ _ => 0, fun _ => 0, fun _ _ => 0, fun _ => 0, fun _ => 0, 0, 0, ⟨xup_s _ _ _, hU1.ofq (fun q a b => o2 q (by omega) (by omega)), hK2.ofq (fun q a b => o3 q (by omega) (by omega)), hM3.ofq (fun q a b => o4 q (by omega) (by omega)), (z0 _ _ hT4).ofq (fun q a b => o5 q (by omega) (by omega)), (z0 _ _ hT5).ofq (fun q a b => o6 q (by omega) (by omega)), hF6.ofq (fun q a b => o7 q (by omega))⟩, ⟨by decide, fun z => absurd z (by decide), fun _ _ => Nat.two_pow_pos 31, fun f _ => (sm_zero n).symm, ⟨by decide, fun y hy => absurd hy (by omega), Or.inl rfl⟩, Or.inl rfl⟩⟩
  · intro q hq
    exact (xup_n (by omega)).trans ((hO6 q (by omega)).trans ((xup_n (by omega)).trans ((xup_n (by omega)).trans ((hO5 q (by omega)).trans ((xup_n (by omega)).trans ((xup_n (by omega)).trans ((hO4 q (by omega)).trans ((xup_n (by omega)).trans ((xup_n (by omega)).trans ((hO3 q (by omega)).trans ((xup_n (by omega)).trans ((xup_n (by omega)).trans ((hO2 q (by omega)).trans ((xup_n (by omega)).trans ((xup_n (by omega)).trans ((hO1 q (by omega)).trans ((xup_n (by omega)).trans (xup_n (by omega)))))))))))))))))))
end SS9
