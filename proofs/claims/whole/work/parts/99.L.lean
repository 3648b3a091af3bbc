section PT
variable {g : xG} {h : xHp} {nx n1 S m ob n len lm ft : Nat} {mk : Nat → Option Nat} {kd tx A Bs : Nat → Nat} {R : Rl} {wk ev : Tr} {w : Nat → Int} {s : MV} {f : Nat → Int64}
theorem fin_mark {h1 : xHp} {As : List Value} {q : Nat} (hI : ssI n mk kd tx len R lm ft A Bs wk ev w) (hX : Ss h1 S n mk kd tx len R lm ft A Bs wk ev w) (hM1 : MAt h1 m s) (hob : h1 ob = some (xla 1 f)) (d1 : S + 491 + 24 * n ≤ m) (d2 : m + 22 ≤ ob) (hq : q < 2) (k : CtM g M_X10_mark (.ref m :: As) m s (fun r2 s' => ∃ v : Nat, v < 2 ∧ r2 = some (.int (nI v)) ∧ s'.cd = q ∧ Rel s' n mk kd tx len R lm ft A Bs wk ev w ∧ (q = 0 → f 0 = lN v))) : ∃ q', q' < 2 ∧ some (Value.int (nI q)) = some (.int (nI q')) ∧ (∃ fs, h1 m = some (xo 11 fs)) ∧ Ct g M_X10_mark (.ref m :: As) h1 n1 (fun r2 h2 n2 => ∃ v : Nat, v < 2 ∧ r2 = some (.int (nI v)) ∧ (∃ fs, h2 m = some (xo 11 fs)) ∧ Ct g M_X10_thrown [.ref m] h2 n2 (fun r3 h3 n3 => r3 = some (.int (nI q')) ∧ Inv h3 S m ob n ∧ (q' = 0 → ∃ f, h3 ob = some (xla 1 f) ∧ f 0 = lN v))) := by
  refine ⟨q, hq, rfl, ⟨_, hM1.1⟩, Ct.imp (k h1 n1 hM1) (fun r2 h2 n2 hq2 => ?_)⟩
  obtain ⟨e, hO2, s', hM2, v, hv, e2, hcd, hR, hf⟩ := hq2
  refine ⟨v, hv, e2, ⟨_, hM2.1⟩, Ct.imp (m_thrown (Q := fun r3 s'' => r3 = some (.int (nI s'.cd)) ∧ s'' = s') ⟨rfl, rfl⟩ h2 n2 hM2) (fun r3 h3 n3 hq3 => ?_)⟩
  obtain ⟨e3, hO3, s'', hM3, e4, e5⟩ := hq3
  subst e5
  have hob3 : h3 ob = some (xla 1 f) := (hO3 ob (Or.inr (by omega))).trans ((hO2 ob (Or.inr (by omega))).trans hob)
  exact ⟨by rw [e4, hcd], ⟨mk, kd, tx, len, R, lm, ft, A, Bs, wk, ev, w, s'', f, hI, hX.ofq (fun q z1 z2 => (hO3 q (Or.inl (by omega))).trans (hO2 q (Or.inl (by omega)))), hM3, hR, hob3, d1, d2⟩, fun z => ⟨f, hob3, hf z⟩⟩
theorem fin_count {h1 : xHp} {As : List Value} {q : Nat} (hI : ssI n mk kd tx len R lm ft A Bs wk ev w) (hX : Ss h1 S n mk kd tx len R lm ft A Bs wk ev w) (hM1 : MAt h1 m s) (hob : h1 ob = some (xla 1 f)) (d1 : S + 491 + 24 * n ≤ m) (d2 : m + 22 ≤ ob) (hq : q < 2) (k : CtM g M_X10_count (.ref m :: As) m s (fun r2 s' => ∃ v : Int32, r2 = some (.int v) ∧ s'.cd = q ∧ Rel s' n mk kd tx len R lm ft A Bs wk ev w ∧ (q = 0 → f 0 = v.toInt64))) : ∃ q', q' < 2 ∧ some (Value.int (nI q)) = some (.int (nI q')) ∧ (∃ fs, h1 m = some (xo 11 fs)) ∧ Ct g M_X10_count (.ref m :: As) h1 n1 (fun r2 h2 n2 => ∃ v : Int32, r2 = some (.int v) ∧ (∃ fs, h2 m = some (xo 11 fs)) ∧ Ct g M_X10_thrown [.ref m] h2 n2 (fun r3 h3 n3 => r3 = some (.int (nI q')) ∧ Inv h3 S m ob n ∧ (q' = 0 → ∃ f, h3 ob = some (xla 1 f) ∧ f 0 = v.toInt64))) := by
  refine ⟨q, hq, rfl, ⟨_, hM1.1⟩, Ct.imp (k h1 n1 hM1) (fun r2 h2 n2 hq2 => ?_)⟩
  obtain ⟨e, hO2, s', hM2, v, e2, hcd, hR, hf⟩ := hq2
  refine ⟨v, e2, ⟨_, hM2.1⟩, Ct.imp (m_thrown (Q := fun r3 s'' => r3 = some (.int (nI s'.cd)) ∧ s'' = s') ⟨rfl, rfl⟩ h2 n2 hM2) (fun r3 h3 n3 hq3 => ?_)⟩
  obtain ⟨e3, hO3, s'', hM3, e4, e5⟩ := hq3
  subst e5
  have hob3 : h3 ob = some (xla 1 f) := (hO3 ob (Or.inr (by omega))).trans ((hO2 ob (Or.inr (by omega))).trans hob)
  exact ⟨by rw [e4, hcd], ⟨mk, kd, tx, len, R, lm, ft, A, Bs, wk, ev, w, s'', f, hI, hX.ofq (fun q z1 z2 => (hO3 q (Or.inl (by omega))).trans (hO2 q (Or.inl (by omega)))), hM3, hR, hob3, d1, d2⟩, fun z => ⟨f, hob3, hf z⟩⟩
theorem fin_share {h1 : xHp} {As : List Value} {q : Nat} (hI : ssI n mk kd tx len R lm ft A Bs wk ev w) (hX : Ss h1 S n mk kd tx len R lm ft A Bs wk ev w) (hM1 : MAt h1 m s) (hob : h1 ob = some (xla 1 f)) (d1 : S + 491 + 24 * n ≤ m) (d2 : m + 22 ≤ ob) (hq : q < 2) (k : CtM g M_X10_share (.ref m :: As) m s (fun r2 s' => ∃ v : Int64, r2 = some (.long v) ∧ s'.cd = q ∧ Rel s' n mk kd tx len R lm ft A Bs wk ev w ∧ (q = 0 → f 0 = v))) : ∃ q', q' < 2 ∧ some (Value.int (nI q)) = some (.int (nI q')) ∧ (∃ fs, h1 m = some (xo 11 fs)) ∧ Ct g M_X10_share (.ref m :: As) h1 n1 (fun r2 h2 n2 => ∃ v : Int64, r2 = some (.long v) ∧ (∃ fs, h2 m = some (xo 11 fs)) ∧ Ct g M_X10_thrown [.ref m] h2 n2 (fun r3 h3 n3 => r3 = some (.int (nI q')) ∧ Inv h3 S m ob n ∧ (q' = 0 → ∃ f, h3 ob = some (xla 1 f) ∧ f 0 = v))) := by
  refine ⟨q, hq, rfl, ⟨_, hM1.1⟩, Ct.imp (k h1 n1 hM1) (fun r2 h2 n2 hq2 => ?_)⟩
  obtain ⟨e, hO2, s', hM2, v, e2, hcd, hR, hf⟩ := hq2
  refine ⟨v, e2, ⟨_, hM2.1⟩, Ct.imp (m_thrown (Q := fun r3 s'' => r3 = some (.int (nI s'.cd)) ∧ s'' = s') ⟨rfl, rfl⟩ h2 n2 hM2) (fun r3 h3 n3 hq3 => ?_)⟩
  obtain ⟨e3, hO3, s'', hM3, e4, e5⟩ := hq3
  subst e5
  have hob3 : h3 ob = some (xla 1 f) := (hO3 ob (Or.inr (by omega))).trans ((hO2 ob (Or.inr (by omega))).trans hob)
  exact ⟨by rw [e4, hcd], ⟨mk, kd, tx, len, R, lm, ft, A, Bs, wk, ev, w, s'', f, hI, hX.ofq (fun q z1 z2 => (hO3 q (Or.inl (by omega))).trans (hO2 q (Or.inl (by omega)))), hM3, hR, hob3, d1, d2⟩, fun z => ⟨f, hob3, hf z⟩⟩
theorem fin_at {h1 : xHp} {As : List Value} {q : Nat} (hI : ssI n mk kd tx len R lm ft A Bs wk ev w) (hX : Ss h1 S n mk kd tx len R lm ft A Bs wk ev w) (hM1 : MAt h1 m s) (hob : h1 ob = some (xla 1 f)) (d1 : S + 491 + 24 * n ≤ m) (d2 : m + 22 ≤ ob) (hq : q < 2) (k : CtM g M_X10_at (.ref m :: As) m s (fun r2 s' => ∃ v : Int64, r2 = some (.long v) ∧ s'.cd = q ∧ Rel s' n mk kd tx len R lm ft A Bs wk ev w ∧ (q = 0 → f 0 = v))) : ∃ q', q' < 2 ∧ some (Value.int (nI q)) = some (.int (nI q')) ∧ (∃ fs, h1 m = some (xo 11 fs)) ∧ Ct g M_X10_at (.ref m :: As) h1 n1 (fun r2 h2 n2 => ∃ v : Int64, r2 = some (.long v) ∧ (∃ fs, h2 m = some (xo 11 fs)) ∧ Ct g M_X10_thrown [.ref m] h2 n2 (fun r3 h3 n3 => r3 = some (.int (nI q')) ∧ Inv h3 S m ob n ∧ (q' = 0 → ∃ f, h3 ob = some (xla 1 f) ∧ f 0 = v))) := by
  refine ⟨q, hq, rfl, ⟨_, hM1.1⟩, Ct.imp (k h1 n1 hM1) (fun r2 h2 n2 hq2 => ?_)⟩
  obtain ⟨e, hO2, s', hM2, v, e2, hcd, hR, hf⟩ := hq2
  refine ⟨v, e2, ⟨_, hM2.1⟩, Ct.imp (m_thrown (Q := fun r3 s'' => r3 = some (.int (nI s'.cd)) ∧ s'' = s') ⟨rfl, rfl⟩ h2 n2 hM2) (fun r3 h3 n3 hq3 => ?_)⟩
  obtain ⟨e3, hO3, s'', hM3, e4, e5⟩ := hq3
  subst e5
  have hob3 : h3 ob = some (xla 1 f) := (hO3 ob (Or.inr (by omega))).trans ((hO2 ob (Or.inr (by omega))).trans hob)
  exact ⟨by rw [e4, hcd], ⟨mk, kd, tx, len, R, lm, ft, A, Bs, wk, ev, w, s'', f, hI, hX.ofq (fun q z1 z2 => (hO3 q (Or.inl (by omega))).trans (hO2 q (Or.inl (by omega)))), hM3, hR, hob3, d1, d2⟩, fun z => ⟨f, hob3, hf z⟩⟩
end PT
section PT2
variable {g : xG} {h : xHp} {nx S m ob n : Nat}
theorem q_mark {a b c d : Int32} (htr : (gL g).stackTraces = false) (hV : Inv h S m ob n) : CtW g M_L_mark [(0, 21, 24, 13)] [.ref S, .int a, .int b, .int c, .int d, .ref ob] h nx (fun r h1 n1 => ∃ q, q < 2 ∧ r = some (.int (nI q)) ∧ (∃ fs, h1 m = some (xo 11 fs)) ∧ Ct g M_X10_mark [.ref m, .int a, .int b, .int c, .int d] h1 n1 (fun r2 h2 n2 => ∃ v : Nat, v < 2 ∧ r2 = some (.int (nI v)) ∧ (∃ fs, h2 m = some (xo 11 fs)) ∧ Ct g M_X10_thrown [.ref m] h2 n2 (fun r3 h3 n3 => r3 = some (.int (nI q)) ∧ Inv h3 S m ob n ∧ (q = 0 → ∃ f, h3 ob = some (xla 1 f) ∧ f 0 = lN v)))) := by
  obtain ⟨mk, kd, tx, len, R, lm, ft, A, Bs, wk, ev, w, s, f, hI, hX, hM, hR, hob, d1, d2⟩ := hV
  have hn : n ≤ 6 := hI.1.2
  obtain ⟨old, x1⟩ := hX.obj
  by_cases bad : ∃ t y i, t < 10 ∧ y < 12 ∧ i < 4 ∧ a = nI t ∧ b = nI y ∧ c = nI i ∧ ∀ z, z < n → ¬ d = nI z
  · obtain ⟨t, y, i, ht, hy, hi, e1, e2, e3, hz⟩ := bad
    subst e1; subst e2; subst e3
    refine w_mark x1 (Or.inr ⟨t_mark htr hn x1 ht hy hi hz, ?_⟩)
    exact fin_mark (q := 1) hI hX hM hob d1 d2 (by decide) (r_mark hI hR (fun t' y' i' z' ht' hy' hi' hz' e1' e2' e3' e4' => absurd e4' (hz z' hz')) (fun t' y' i' ht' hy' hi' e1' e2' e3' hz' s' hcd hR' => ⟨0, by decide, rfl, hcd, hR', fun z => absurd z (by decide)⟩) (fun z => absurd rfl (z t y i ht hy hi rfl rfl)))
  · refine w_mark x1 (Or.inl (c_mark hI hX (fun t y i ht hy hi e1 e2 e3 => ?_) (fun t y i z ht hy hi hz e1 e2 e3 e4 h1 hX1 hO1 => ?_) (fun z => ?_)))
    · by_cases q : ∃ z, z < n ∧ d = nI z
      · exact q
      · exact absurd ⟨t, y, i, ht, hy, hi, e1, e2, e3, fun z hz e => q ⟨z, hz, e⟩⟩ bad
    · refine ⟨1, by decide, rfl, f, (hO1 ob (Or.inr (by omega))).trans hob, ?_⟩
      refine fin_mark (q := 0) (f := va_up f 0 (lN 1)) (si_mark hI hz) (hX1.ofq (fun q z1 z2 => xup_n (by omega))) (hM.ofq (fun q z1 z2 => (xup_n (by omega)).trans (hO1 q (Or.inr (by omega))))) (xup_s _ _ _) d1 d2 (by decide) (r_mark hI hR (fun t' y' i' z' ht' hy' hi' hz' e1' e2' e3' e4' s' hcd hR' => ?_) (fun t' y' i' ht' hy' hi' e1' e2' e3' hz' => absurd e4 (hz' z hz)) (fun z' => absurd e3 (z' t y i ht hy hi e1 e2)))
      cases nj e1 e1' (by omega) (by omega)
      cases nj e2 e2' (by omega) (by omega)
      cases nj e3 e3' (by omega) (by omega)
      cases nj e4 e4' (by omega) (by omega)
      exact ⟨1, by decide, rfl, hcd, hR', fun _ => up_s⟩
    · refine ⟨0, by decide, rfl, f, hob, ?_⟩
      exact fin_mark (q := 0) (f := va_up f 0 (lN 0)) hI (hX.ofq (fun q z1 z2 => xup_n (by omega))) (hM.ofq (fun q z1 z2 => xup_n (by omega))) (xup_s _ _ _) d1 d2 (by decide) (r_mark hI hR (fun t' y' i' z' ht' hy' hi' hz' e1' e2' e3' e4' => absurd e3' (z t' y' i' ht' hy' hi' e1' e2')) (fun t' y' i' ht' hy' hi' e1' e2' e3' hz' => absurd e3' (z t' y' i' ht' hy' hi' e1' e2')) (fun _ s' hcd hR' => ⟨0, by decide, rfl, hcd, hR', fun _ => up_s⟩))
theorem q_count {a b : Int32} (htr : (gL g).stackTraces = false) (hV : Inv h S m ob n) : CtW g M_L_count [(0, 10, 13, 13)] [.ref S, .int a, .int b, .ref ob] h nx (fun r h1 n1 => ∃ q, q < 2 ∧ r = some (.int (nI q)) ∧ (∃ fs, h1 m = some (xo 11 fs)) ∧ Ct g M_X10_count [.ref m, .int a, .int b] h1 n1 (fun r2 h2 n2 => ∃ v : Int32, r2 = some (.int v) ∧ (∃ fs, h2 m = some (xo 11 fs)) ∧ Ct g M_X10_thrown [.ref m] h2 n2 (fun r3 h3 n3 => r3 = some (.int (nI q)) ∧ Inv h3 S m ob n ∧ (q = 0 → ∃ f, h3 ob = some (xla 1 f) ∧ f 0 = v.toInt64)))) := by
  obtain ⟨mk, kd, tx, len, R, lm, ft, A, Bs, wk, ev, w, s, f, hI, hX, hM, hR, hob, d1, d2⟩ := hV
  have hn : n ≤ 6 := hI.1.2
  obtain ⟨old, x1⟩ := hX.obj
  by_cases good : ∃ i j, i < n ∧ j < n ∧ a = nI i ∧ b = nI j
  · obtain ⟨i, j, hi, hj, e1, e2⟩ := good
    subst e1; subst e2
    refine w_count x1 (Or.inl (c_count hI hX hi hj (fun h1 hX1 hO1 => ⟨_, rfl, f, (hO1 ob (Or.inr (by omega))).trans hob, ?_⟩)))
    refine fin_count (q := 0) (f := va_up f 0 (nI (aC (agr mk R) (i * 6 + j))).toInt64) hI (hX1.ofq (fun q z1 z2 => xup_n (by omega))) (hM.ofq (fun q z1 z2 => (xup_n (by omega)).trans (hO1 q (Or.inr (by omega))))) (xup_s _ _ _) d1 d2 (by decide) (r_count hI hR (fun i' j' hi' hj' e1' e2' s' hcd hR' => ?_) (fun z => absurd rfl (z i j hi hj rfl)))
    cases nj rfl e1' (by omega) (by omega)
    cases nj rfl e2' (by omega) (by omega)
    exact ⟨_, rfl, hcd, hR', fun _ => up_s⟩
  · refine w_count x1 (Or.inr ⟨t_count htr hn x1 good, ?_⟩)
    exact fin_count (q := 1) hI hX hM hob d1 d2 (by decide) (r_count hI hR (fun i' j' hi' hj' e1' e2' => absurd ⟨i', j', hi', hj', e1', e2'⟩ good) (fun _ s' hcd hR' => ⟨_, rfl, hcd, hR', fun z => absurd z (by decide)⟩))
theorem q_share {a b c : Int32} (htr : (gL g).stackTraces = false) (hV : Inv h S m ob n) : CtW g M_L_share [(0, 11, 14, 13)] [.ref S, .int a, .int b, .int c, .ref ob] h nx (fun r h1 n1 => ∃ q, q < 2 ∧ r = some (.int (nI q)) ∧ (∃ fs, h1 m = some (xo 11 fs)) ∧ Ct g M_X10_share [.ref m, .int a, .int b, .int c] h1 n1 (fun r2 h2 n2 => ∃ v : Int64, r2 = some (.long v) ∧ (∃ fs, h2 m = some (xo 11 fs)) ∧ Ct g M_X10_thrown [.ref m] h2 n2 (fun r3 h3 n3 => r3 = some (.int (nI q)) ∧ Inv h3 S m ob n ∧ (q = 0 → ∃ f, h3 ob = some (xla 1 f) ∧ f 0 = v)))) := by
  obtain ⟨mk, kd, tx, len, R, lm, ft, A, Bs, wk, ev, w, s, f, hI, hX, hM, hR, hob, d1, d2⟩ := hV
  have hn : n ≤ 6 := hI.1.2
  obtain ⟨old, x1⟩ := hX.obj
  by_cases good : ∃ i j, i < n ∧ j < n ∧ a = nI i ∧ b = nI j
  · obtain ⟨i, j, hi, hj, e1, e2⟩ := good
    subst e1; subst e2
    refine w_share x1 (Or.inl (c_share hI hX hi hj (fun h1 hX1 hO1 => ⟨_, rfl, f, (hO1 ob (Or.inr (by omega))).trans hob, ?_⟩)))
    refine fin_share (q := 0) (f := va_up f 0 (lN (smp (aP (agr mk R) lm n (i * 6 + j)) (aB (agr mk R) lm n i) c))) hI (hX1.ofq (fun q z1 z2 => xup_n (by omega))) (hM.ofq (fun q z1 z2 => (xup_n (by omega)).trans (hO1 q (Or.inr (by omega))))) (xup_s _ _ _) d1 d2 (by decide) (r_share hI hR (fun i' j' hi' hj' e1' e2' s' hcd hR' => ?_) (fun z => absurd rfl (z i j hi hj rfl)))
    cases nj rfl e1' (by omega) (by omega)
    cases nj rfl e2' (by omega) (by omega)
    exact ⟨_, rfl, hcd, hR', fun _ => up_s⟩
  · refine w_share x1 (Or.inr ⟨t_share htr hn x1 good, ?_⟩)
    exact fin_share (q := 1) hI hX hM hob d1 d2 (by decide) (r_share hI hR (fun i' j' hi' hj' e1' e2' => absurd ⟨i', j', hi', hj', e1', e2'⟩ good) (fun _ s' hcd hR' => ⟨_, rfl, hcd, hR', fun z => absurd z (by decide)⟩))
theorem q_at {a b c : Int32} (htr : (gL g).stackTraces = false) (hV : Inv h S m ob n) : CtW g M_L_at [(0, 11, 14, 13)] [.ref S, .int a, .int b, .int c, .ref ob] h nx (fun r h1 n1 => ∃ q, q < 2 ∧ r = some (.int (nI q)) ∧ (∃ fs, h1 m = some (xo 11 fs)) ∧ Ct g M_X10_at [.ref m, .int a, .int b, .int c] h1 n1 (fun r2 h2 n2 => ∃ v : Int64, r2 = some (.long v) ∧ (∃ fs, h2 m = some (xo 11 fs)) ∧ Ct g M_X10_thrown [.ref m] h2 n2 (fun r3 h3 n3 => r3 = some (.int (nI q)) ∧ Inv h3 S m ob n ∧ (q = 0 → ∃ f, h3 ob = some (xla 1 f) ∧ f 0 = v)))) := by
  obtain ⟨mk, kd, tx, len, R, lm, ft, A, Bs, wk, ev, w, s, f, hI, hX, hM, hR, hob, d1, d2⟩ := hV
  have hn : n ≤ 6 := hI.1.2
  obtain ⟨old, x1⟩ := hX.obj
  by_cases good : ∃ i, i < n ∧ a = nI i
  · obtain ⟨i, hi, e1⟩ := good
    subst e1
    refine w_at x1 (Or.inl (c_at hI hX hi (fun y hy e2 hl h1 u l hX1 ho hO1 => ⟨_, rfl, f, (hO1 ob (Or.inr (by omega))).trans hob, ?_⟩) (fun y hy e2 hl h1 hX1 hO1 => ⟨_, rfl, f, (hO1 ob (Or.inr (by omega))).trans hob, ?_⟩) (fun z => ⟨_, rfl, f, hob, ?_⟩)))
    · refine fin_at (q := 0) (f := va_up f 0 (lN (dgt u l c))) hI (hX1.ofq (fun q z1 z2 => xup_n (by omega))) (hM.ofq (fun q z1 z2 => (xup_n (by omega)).trans (hO1 q (Or.inr (by omega))))) (xup_s _ _ _) d1 d2 (by decide) (r_at hI hR (fun i' y' hi' hy' e1' e2' hl' s' u' l' hcd hR' ho' => ?_) (fun i' y' hi' hy' e1' e2' hl' => ?_) (fun i' hi' e1' z => absurd e2 (z y hy)) (fun z => absurd rfl (z i hi)))
      · cases nj rfl e1' (by omega) (by omega)
        cases nj e2 e2' (by omega) (by omega)
        obtain ⟨q1, q2⟩ := lowT.uniq (fa_ok hI y hy).1 ho ho'
        refine ⟨_, rfl, hcd, hR', fun _ => ?_⟩
        rw [up_s, q1, q2]
      · cases nj e2 e2' (by omega) (by omega)
        obtain ⟨z, z1, z2⟩ := hl'
        exact absurd z2 (hl z z1)
    · refine fin_at (q := 0) (f := va_up f 0 (-1)) hI (hX1.ofq (fun q z1 z2 => xup_n (by omega))) (hM.ofq (fun q z1 z2 => (xup_n (by omega)).trans (hO1 q (Or.inr (by omega))))) (xup_s _ _ _) d1 d2 (by decide) (r_at hI hR (fun i' y' hi' hy' e1' e2' hl' => ?_) (fun i' y' hi' hy' e1' e2' hl' s' hcd hR' => ⟨_, rfl, hcd, hR', fun _ => up_s⟩) (fun i' hi' e1' z => absurd e2 (z y hy)) (fun z => absurd rfl (z i hi)))
      cases nj e2 e2' (by omega) (by omega)
      obtain ⟨z, z1, z2⟩ := hl
      exact absurd z2 (hl' z z1)
    · exact fin_at (q := 0) (f := va_up f 0 (-1)) hI (hX.ofq (fun q z1 z2 => xup_n (by omega))) (hM.ofq (fun q z1 z2 => xup_n (by omega))) (xup_s _ _ _) d1 d2 (by decide) (r_at hI hR (fun i' y' hi' hy' e1' e2' => absurd e2' (z y' hy')) (fun i' y' hi' hy' e1' e2' => absurd e2' (z y' hy')) (fun i' hi' e1' _ s' hcd hR' => ⟨_, rfl, hcd, hR', fun _ => up_s⟩) (fun z => absurd rfl (z i hi)))
  · refine w_at x1 (Or.inr ⟨t_at htr hn x1 (fun z hz e => good ⟨z, hz, e⟩), ?_⟩)
    exact fin_at (q := 1) hI hX hM hob d1 d2 (by decide) (r_at hI hR (fun i' y' hi' hy' e1' => absurd ⟨i', hi', e1'⟩ good) (fun i' y' hi' hy' e1' => absurd ⟨i', hi', e1'⟩ good) (fun i' hi' e1' => absurd ⟨i', hi', e1'⟩ good) (fun _ s' hcd hR' => ⟨_, rfl, hcd, hR', fun z => absurd z (by decide)⟩))
end PT2
