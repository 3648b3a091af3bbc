/-! the loop -/
theorem sub8_lt : ∀ N, N < 8 → nI N - nI 8 < nI 0 := by decide
theorem sub8 {N i : Nat} (hN : N < 2 ^ 31) (hi : i < 2 ^ 31) : nI N - nI 8 < nI i ↔ N < i + 8 := by
  by_cases c : N < 8
  · refine ⟨fun _ => by omega, fun _ => ?_⟩
    exact Int32.lt_of_lt_of_le (sub8_lt N c) ((nI_leI (by decide) hi).mpr (by omega))
  · rw [pk_sub (by omega), nI_ltI (by omega) hi]
    omega
theorem law_loop {g : xG} {b N S m ob n : Nat} {xs : Nat → Int32} (htr : (gL g).stackTraces = false) (hN : N ≤ 4097) : ∀ (d i cu su nx : Nat) (h : xHp), N ≤ i + d → i ≤ 5000 → cu + 2 * d ≤ 601024 → su + 12 * d ≤ 7293000 → Inv h S m ob n → BlkY g M_L_law (KL g b N xs) lw_Z 33 [(0, .ref b), (1, .ref S), (2, .ref m), (3, .ref ob), (4, .int (nI i))] [] h nx cu su := by
  intro d
  induction d with
  | zero =>
    intro i cu su nx h hd hi hc hs hV
    refine y_iload 4 dL_law_33 rfl ?_
    refine y_aload_n 0 dL_law_35 rfl rfl ?_
    refine y_slen (fun _ _ _ z => z.2.1) dL_law_36 ?_
    refine y_bipush (v := (nI 8)) dL_law_37 rfl ?_
    refine y_isub dL_law_39 ?_
    exact y_icmp_gt (tgt := 1511) dL_law_40 (by decide) (fun _ => y_law_end (by omega) (by omega)) (fun c => absurd ((sub8 (by omega) (by omega)).mpr (by omega)) c)
  | succ d ih =>
    intro i cu su nx h hd hi hc hs hV
    refine y_iload 4 dL_law_33 rfl ?_
    refine y_aload_n 0 dL_law_35 rfl rfl ?_
    refine y_slen (fun _ _ _ z => z.2.1) dL_law_36 ?_
    refine y_bipush (v := (nI 8)) dL_law_37 rfl ?_
    refine y_isub dL_law_39 ?_
    refine y_icmp_gt (tgt := 1511) dL_law_40 (by decide) (fun _ => y_law_end (by omega) (by omega)) (fun c => ?_)
    have hN2 : N < 2 ^ 31 := by omega
    have hi8 : i + 8 ≤ N := by
      by_cases z : N < i + 8
      · exact absurd ((sub8 hN2 (by omega)).mpr z) c
      · omega
    have hc2 : cu + 2 ≤ 601024 := by omega
    have hs2 : su + 12 ≤ 7293000 := by omega
    have next : ∀ (h2 : xHp) (n2 cu2 su2 : Nat), cu2 ≤ cu + 2 → su2 ≤ su + 12 → Inv h2 S m ob n → BlkY g M_L_law (KL g b N xs) lw_Z 1505 [(0, .ref b), (1, .ref S), (2, .ref m), (3, .ref ob), (4, .int (nI i))] [] h2 n2 cu2 su2 := by
      intro h2 n2 cu2 su2 z1 z2 hV2
      refine y_iincN 4 (b := 8) (L' := [(4, .int (nI (i + 8))), (0, .ref b), (1, .ref S), (2, .ref m), (3, .ref ob)]) dL_law_1505 rfl rfl (by decide) rfl ?_
      refine y_goto (tgt := 33) dL_law_1508 (by decide) ?_
      exact BlkY.sub [1, 2, 3, 4, 0] rfl (ih (i + 8) cu2 su2 n2 h2 (by omega) (by omega) (by omega) (by omega) hV2)
    have hSo : ∃ fs, h S = some (xo 10 fs) := by
      obtain ⟨mk, kd, tx, len, R, lm, ft, A, Bs, wk, ev, w, s, f, hI, hX, -⟩ := hV
      obtain ⟨old, x1⟩ := hX.obj
      exact ⟨_, x1⟩
    obtain ⟨fs, hS⟩ := hSo
    refine y_aload_n 0 dL_law_43 rfl rfl ?_
    refine y_iload 4 dL_law_44 rfl ?_
    refine y_sld (fun _ _ _ z => z.2.1) dL_law_46 rfl (by omega) hN2 ?_
    refine y_bipush (v := (nI 31)) dL_law_47 rfl ?_
    refine y_iand dL_law_49 ?_
    generalize xs i &&& nI 31 = x
    by_cases e0 : x = nI 0
    · refine y_tswIn (tgt := 148) dL_law_50 (by rw [e0]; decide) (by rw [e0]; decide) (by rw [e0]; rfl) (by decide) ?_
      exact lc_mark hN2 hi8 hc2 hs2 (q_mark htr hV) (fun h2 n2 hV2 => next h2 n2 _ _ (Nat.le_refl _) (Nat.le_refl _) hV2)
    by_cases e1 : x = nI 1
    · refine y_tswIn (tgt := 247) dL_law_50 (by rw [e1]; decide) (by rw [e1]; decide) (by rw [e1]; rfl) (by decide) ?_
      exact lc_unit hN2 hi8 hc2 hs2 hS (q_unit hV) (fun h2 hV2 => next h2 nx cu su (by omega) (by omega) hV2)
    by_cases e2 : x = nI 2
    · refine y_tswIn (tgt := 272) dL_law_50 (by rw [e2]; decide) (by rw [e2]; decide) (by rw [e2]; rfl) (by decide) ?_
      exact lc_grade hN2 hi8 hc2 hs2 hS (q_grade hV) (fun h2 hV2 => next h2 nx cu su (by omega) (by omega) hV2)
    by_cases e3 : x = nI 3
    · refine y_tswIn (tgt := 285) dL_law_50 (by rw [e3]; decide) (by rw [e3]; decide) (by rw [e3]; rfl) (by decide) ?_
      exact lc_graded hN2 hi8 hc2 hs2 hS (q_graded hV) (fun h2 hV2 => next h2 nx cu su (by omega) (by omega) hV2)
    by_cases e4 : x = nI 4
    · refine y_tswIn (tgt := 322) dL_law_50 (by rw [e4]; decide) (by rw [e4]; decide) (by rw [e4]; rfl) (by decide) ?_
      exact lc_count hN2 hi8 hc2 hs2 (q_count htr hV) (fun h2 n2 hV2 => next h2 n2 _ _ (Nat.le_refl _) (Nat.le_refl _) hV2)
    by_cases e5 : x = nI 5
    · refine y_tswIn (tgt := 390) dL_law_50 (by rw [e5]; decide) (by rw [e5]; decide) (by rw [e5]; rfl) (by decide) ?_
      exact lc_least hN2 hi8 hc2 hs2 hS (q_least hV) (fun h2 hV2 => next h2 nx cu su (by omega) (by omega) hV2)
    by_cases e6 : x = nI 6
    · refine y_tswIn (tgt := 415) dL_law_50 (by rw [e6]; decide) (by rw [e6]; decide) (by rw [e6]; rfl) (by decide) ?_
      exact lc_share hN2 hi8 hc2 hs2 (q_share htr hV) (fun h2 n2 hV2 => next h2 n2 _ _ (Nat.le_refl _) (Nat.le_refl _) hV2)
    by_cases e7 : x = nI 7
    · refine y_tswIn (tgt := 494) dL_law_50 (by rw [e7]; decide) (by rw [e7]; decide) (by rw [e7]; rfl) (by decide) ?_
      exact lc_at hN2 hi8 hc2 hs2 (q_at htr hV) (fun h2 n2 hV2 => next h2 n2 _ _ (Nat.le_refl _) (Nat.le_refl _) hV2)
    by_cases e8 : x = nI 8
    · refine y_tswIn (tgt := 573) dL_law_50 (by rw [e8]; decide) (by rw [e8]; decide) (by rw [e8]; rfl) (by decide) ?_
      exact lc_start hN2 hi8 hc2 hs2 hS (q_start hV) (fun h2 hV2 => next h2 nx cu su (by omega) (by omega) hV2)
    by_cases e9 : x = nI 9
    · refine y_tswIn (tgt := 686) dL_law_50 (by rw [e9]; decide) (by rw [e9]; decide) (by rw [e9]; rfl) (by decide) ?_
      exact lc_works hN2 hi8 hc2 hs2 hS (q_works hV) (fun h2 hV2 => next h2 nx cu su (by omega) (by omega) hV2)
    by_cases e10 : x = nI 10
    · refine y_tswIn (tgt := 827) dL_law_50 (by rw [e10]; decide) (by rw [e10]; decide) (by rw [e10]; rfl) (by decide) ?_
      exact lc_event hN2 hi8 hc2 hs2 hS (q_event hV) (fun h2 hV2 => next h2 nx cu su (by omega) (by omega) hV2)
    by_cases e11 : x = nI 11
    · refine y_tswIn (tgt := 968) dL_law_50 (by rw [e11]; decide) (by rw [e11]; decide) (by rw [e11]; rfl) (by decide) ?_
      exact lc_sums hN2 hi8 hc2 hs2 hS (q_sums hV) (fun h2 hV2 => next h2 nx cu su (by omega) (by omega) hV2)
    by_cases e12 : x = nI 12
    · refine y_tswIn (tgt := 993) dL_law_50 (by rw [e12]; decide) (by rw [e12]; decide) (by rw [e12]; rfl) (by decide) ?_
      exact lc_drawn hN2 hi8 hc2 hs2 hS (q_drawn hV) (fun h2 hV2 => next h2 nx cu su (by omega) (by omega) hV2)
    by_cases e13 : x = nI 13
    · refine y_tswIn (tgt := 1074) dL_law_50 (by rw [e13]; decide) (by rw [e13]; decide) (by rw [e13]; rfl) (by decide) ?_
      exact lc_span hN2 hi8 hc2 hs2 hS (q_span hV) (fun h2 hV2 => next h2 nx cu su (by omega) (by omega) hV2)
    by_cases e14 : x = nI 14
    · refine y_tswIn (tgt := 1136) dL_law_50 (by rw [e14]; decide) (by rw [e14]; decide) (by rw [e14]; rfl) (by decide) ?_
      exact lc_part2 hN2 hi8 hc2 hs2 hS (q_part2 hV) (fun h2 hV2 => next h2 nx cu su (by omega) (by omega) hV2)
    by_cases e15 : x = nI 15
    · refine y_tswIn (tgt := 1205) dL_law_50 (by rw [e15]; decide) (by rw [e15]; decide) (by rw [e15]; rfl) (by decide) ?_
      exact lc_worth hN2 hi8 hc2 hs2 hS (q_worth hV) (fun h2 hV2 => next h2 nx cu su (by omega) (by omega) hV2)
    by_cases e16 : x = nI 16
    · refine y_tswIn (tgt := 1243) dL_law_50 (by rw [e16]; decide) (by rw [e16]; decide) (by rw [e16]; rfl) (by decide) ?_
      exact lc_agree hN2 hi8 hc2 hs2 hS (q_agree hV) (fun h2 hV2 => next h2 nx cu su (by omega) (by omega) hV2)
    by_cases e17 : x = nI 17
    · refine y_tswIn (tgt := 1293) dL_law_50 (by rw [e17]; decide) (by rw [e17]; decide) (by rw [e17]; rfl) (by decide) ?_
      exact lc_joined hN2 hi8 hc2 hs2 hS (q_joined hV) (fun h2 hV2 => next h2 nx cu su (by omega) (by omega) hV2)
    by_cases e18 : x = nI 18
    · refine y_tswIn (tgt := 1330) dL_law_50 (by rw [e18]; decide) (by rw [e18]; decide) (by rw [e18]; rfl) (by decide) ?_
      exact lc_target hN2 hi8 hc2 hs2 hS (q_target hV) (fun h2 hV2 => next h2 nx cu su (by omega) (by omega) hV2)
    by_cases e19 : x = nI 19
    · refine y_tswIn (tgt := 1443) dL_law_50 (by rw [e19]; decide) (by rw [e19]; decide) (by rw [e19]; rfl) (by decide) ?_
      exact lc_missing hN2 hi8 hc2 hs2 hS (q_missing hV) (fun h2 hV2 => next h2 nx cu su (by omega) (by omega) hV2)
    by_cases e20 : x = nI 20
    · refine y_tswIn (tgt := 1468) dL_law_50 (by rw [e20]; decide) (by rw [e20]; decide) (by rw [e20]; rfl) (by decide) ?_
      exact lc_kind hN2 hi8 hc2 hs2 hS (q_kind hV) (fun h2 hV2 => next h2 nx cu su (by omega) (by omega) hV2)
    refine y_tswOut (tgt := 1505) dL_law_50 (by have q0 : x.toInt ≠ 0 := fun z => e0 (Int32.toInt_inj.mp (z.trans (by decide))); have q1 : x.toInt ≠ 1 := fun z => e1 (Int32.toInt_inj.mp (z.trans (by decide))); have q2 : x.toInt ≠ 2 := fun z => e2 (Int32.toInt_inj.mp (z.trans (by decide))); have q3 : x.toInt ≠ 3 := fun z => e3 (Int32.toInt_inj.mp (z.trans (by decide))); have q4 : x.toInt ≠ 4 := fun z => e4 (Int32.toInt_inj.mp (z.trans (by decide))); have q5 : x.toInt ≠ 5 := fun z => e5 (Int32.toInt_inj.mp (z.trans (by decide))); have q6 : x.toInt ≠ 6 := fun z => e6 (Int32.toInt_inj.mp (z.trans (by decide))); have q7 : x.toInt ≠ 7 := fun z => e7 (Int32.toInt_inj.mp (z.trans (by decide))); have q8 : x.toInt ≠ 8 := fun z => e8 (Int32.toInt_inj.mp (z.trans (by decide))); have q9 : x.toInt ≠ 9 := fun z => e9 (Int32.toInt_inj.mp (z.trans (by decide))); have q10 : x.toInt ≠ 10 := fun z => e10 (Int32.toInt_inj.mp (z.trans (by decide))); have q11 : x.toInt ≠ 11 := fun z => e11 (Int32.toInt_inj.mp (z.trans (by decide))); have q12 : x.toInt ≠ 12 := fun z => e12 (Int32.toInt_inj.mp (z.trans (by decide))); have q13 : x.toInt ≠ 13 := fun z => e13 (Int32.toInt_inj.mp (z.trans (by decide))); have q14 : x.toInt ≠ 14 := fun z => e14 (Int32.toInt_inj.mp (z.trans (by decide))); have q15 : x.toInt ≠ 15 := fun z => e15 (Int32.toInt_inj.mp (z.trans (by decide))); have q16 : x.toInt ≠ 16 := fun z => e16 (Int32.toInt_inj.mp (z.trans (by decide))); have q17 : x.toInt ≠ 17 := fun z => e17 (Int32.toInt_inj.mp (z.trans (by decide))); have q18 : x.toInt ≠ 18 := fun z => e18 (Int32.toInt_inj.mp (z.trans (by decide))); have q19 : x.toInt ≠ 19 := fun z => e19 (Int32.toInt_inj.mp (z.trans (by decide))); have q20 : x.toInt ≠ 20 := fun z => e20 (Int32.toInt_inj.mp (z.trans (by decide))); omega) (by decide) ?_
    exact next h nx cu su (by omega) (by omega) hV
