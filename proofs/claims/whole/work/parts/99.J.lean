/-! class and reference, call by call -/
theorem nj {x : Int32} {a b : Nat} (e1 : x = nI a) (e2 : x = nI b) (ha : a < 2 ^ 31) (hb : b < 2 ^ 31) : a = b := (nI_eq ha hb).mp (e1.symm.trans e2)
theorem lj {x : Int64} {a b : Nat} (e1 : x = lN a) (e2 : x = lN b) (ha : a < 2 ^ 63) (hb : b < 2 ^ 63) : a = b := (pk_lEQ ha hb).mp (e1.symm.trans e2)
section PR
variable {g : xG} {h : xHp} {nx S m ob n len lm ft : Nat} {mk : Nat → Option Nat} {kd tx A Bs : Nat → Nat} {R : Rl} {wk ev : Tr} {w : Nat → Int} {s : MV} {f : Nat → Int64}
theorem Ss.ofq {h h' : xHp} (hX : Ss h S n mk kd tx len R lm ft A Bs wk ev w) (o : ∀ q, S ≤ q → q < S + 491 + 24 * n → h' q = h q) : Ss h' S n mk kd tx len R lm ft A Bs wk ev w := by
  obtain ⟨old, gr, C, T, G, P, B, kn, hG, hX⟩ := hX
  obtain ⟨ws, we, nw, nxt, hd, dr, D, so, ch, cu, wy, wg, p, W, e, ku, kl, vu, vl, ⟨x1, x2, x3, x4, x5, x6, x7⟩, hy⟩ := hX
  exact ⟨old, gr, C, T, G, P, B, kn, hG, ws, we, nw, nxt, hd, dr, D, so, ch, cu, wy, wg, p, W, e, ku, kl, vu, vl, ⟨(o _ (by omega) (by omega)).trans x1, x2.ofq (fun q a b => o q (by omega) (by omega)), x3.ofq (fun q a b => o q (by omega) (by omega)), x4.ofq (fun q a b => o q (by omega) (by omega)), x5.ofq (fun q a b => o q (by omega) (by omega)), x6.ofq (fun q a b => o q (by omega) (by omega)), x7.ofq (fun q a b => o q (by omega) (by omega))⟩, hy⟩
theorem finI {h1 : xHp} {M2 : xM} {As : List Value} {v : Int32} (hI : ssI n mk kd tx len R lm ft A Bs wk ev w) (hX : Ss h1 S n mk kd tx len R lm ft A Bs wk ev w) (hM : MAt h m s) (hob : h ob = some (xla 1 f)) (hO1 : Off S (491 + 24 * n) h h1) (d1 : S + 491 + 24 * n ≤ m) (d2 : m + 22 ≤ ob) (k : CtM g M2 (.ref m :: As) m s (fun r2 s' => r2 = some (.int v) ∧ Rel s' n mk kd tx len R lm ft A Bs wk ev w)) : ∃ v' : Int32, some (Value.int v) = some (.int v') ∧ (∃ fs, h1 m = some (xo 11 fs)) ∧ Ct g M2 (.ref m :: As) h1 nx (fun r2 h2 n2 => r2 = some (.int v') ∧ n2 = nx ∧ Inv h2 S m ob n) := by
  have hM1 := hM.ofq (h' := h1) (fun b z1 z2 => hO1 b (Or.inr (by omega)))
  refine ⟨v, rfl, ⟨_, hM1.1⟩, Ct.imp (k h1 nx hM1) (fun r2 h2 n2 hq => ?_)⟩
  obtain ⟨e, hO2, s', hM2, e2, hR⟩ := hq
  exact ⟨e2, e.symm, mk, kd, tx, len, R, lm, ft, A, Bs, wk, ev, w, s', f, hI, hX.ofq (fun q z1 z2 => hO2 q (Or.inl (by omega))), hM2, hR, (hO2 ob (Or.inr (by omega))).trans ((hO1 ob (Or.inr (by omega))).trans hob), d1, d2⟩
theorem finL {h1 : xHp} {M2 : xM} {As : List Value} {v : Int64} (hI : ssI n mk kd tx len R lm ft A Bs wk ev w) (hX : Ss h1 S n mk kd tx len R lm ft A Bs wk ev w) (hM : MAt h m s) (hob : h ob = some (xla 1 f)) (hO1 : Off S (491 + 24 * n) h h1) (d1 : S + 491 + 24 * n ≤ m) (d2 : m + 22 ≤ ob) (k : CtM g M2 (.ref m :: As) m s (fun r2 s' => r2 = some (.long v) ∧ Rel s' n mk kd tx len R lm ft A Bs wk ev w)) : ∃ v' : Int64, some (Value.long v) = some (.long v') ∧ (∃ fs, h1 m = some (xo 11 fs)) ∧ Ct g M2 (.ref m :: As) h1 nx (fun r2 h2 n2 => r2 = some (.long v') ∧ n2 = nx ∧ Inv h2 S m ob n) := by
  have hM1 := hM.ofq (h' := h1) (fun b z1 z2 => hO1 b (Or.inr (by omega)))
  refine ⟨v, rfl, ⟨_, hM1.1⟩, Ct.imp (k h1 nx hM1) (fun r2 h2 n2 hq => ?_)⟩
  obtain ⟨e, hO2, s', hM2, e2, hR⟩ := hq
  exact ⟨e2, e.symm, mk, kd, tx, len, R, lm, ft, A, Bs, wk, ev, w, s', f, hI, hX.ofq (fun q z1 z2 => hO2 q (Or.inl (by omega))), hM2, hR, (hO2 ob (Or.inr (by omega))).trans ((hO1 ob (Or.inr (by omega))).trans hob), d1, d2⟩
/-! what is told stays sound -/
theorem si_mark {q z : Nat} (hI : ssI n mk kd tx len R lm ft A Bs wk ev w) (hz : z < n) : ssI n (va_up mk q (some z)) kd tx len R lm ft A Bs wk ev w := by
  obtain ⟨i1, i2, i3, i4, i5, i6, i7, i8, i9, i10, i11⟩ := hI
  refine ⟨i1, fun i v hi e => ?_, i3, i4, i5, i6, i7, i8, i9, i10, i11⟩
  by_cases c : i = q
  · subst c
    rw [up_s] at e
    have := Option.some.inj e
    omega
  · rw [up_n c] at e
    exact i2 i v hi e
theorem si_kind {t k : Nat} (hI : ssI n mk kd tx len R lm ft A Bs wk ev w) (hk : k < 4) : ssI n mk (va_up kd t k) tx len R lm ft A Bs wk ev w := by
  obtain ⟨i1, i2, i3, i4, i5, i6, i7, i8, i9, i10, i11⟩ := hI
  refine ⟨i1, i2, fun i hi => ?_, i4, i5, i6, i7, i8, i9, i10, i11⟩
  by_cases c : i = t
  · subst c
    rw [up_s]
    omega
  · rw [up_n c]
    exact i3 i hi
theorem si_unit {u : Nat} (hI : ssI n mk kd tx len R lm ft A Bs wk ev w) (h1 : 32 ≤ u) (h2 : u ≤ 126) (hl : len < 120) : ssI n mk kd (va_up tx len u) (len + 1) R lm ft A Bs wk ev w := by
  obtain ⟨i1, i2, i3, i4, i5, i6, i7, i8, i9, i10, i11⟩ := hI
  refine ⟨i1, i2, i3, ⟨by omega, fun i hi => ?_⟩, i5, i6, i7, i8, i9, i10, i11⟩
  by_cases c : i = len
  · subst c
    rw [up_s]
    exact ⟨h1, h2⟩
  · rw [up_n c]
    exact i4.2 i (by omega)
theorem si_least {k : Nat} (hI : ssI n mk kd tx len R lm ft A Bs wk ev w) (hk : k ≤ 50) : ssI n mk kd tx len R k ft A Bs wk ev w := by
  obtain ⟨i1, i2, i3, i4, i5, i6, i7, i8, i9, i10, i11⟩ := hI
  exact ⟨i1, i2, i3, i4, i5, hk, i7, i8, i9, i10, i11⟩
theorem si_start {t u v : Nat} (hI : ssI n mk kd tx len R lm ft A Bs wk ev w) (h1 : u ≤ v) (h2 : 0 < v) (h3 : v ≤ 1000) : ssI n mk kd tx len R lm 1 (stA ft A t u) (va_up Bs t v) wk ev w := by
  obtain ⟨i1, i2, i3, i4, i5, i6, i7, i8, i9, i10, i11⟩ := hI
  refine ⟨i1, i2, i3, i4, i5, i6, by omega, fun q hq => ?_, i9, i10, i11⟩
  obtain ⟨j1, j2, j3⟩ := i8 q hq
  unfold stA
  by_cases c : q = t
  · subst c
    rw [up_s, up_s]
    exact ⟨h2, h3, h1⟩
  · rw [up_n c, up_n c]
    refine ⟨j1, j2, ?_⟩
    by_cases z : ft = 0
    · rw [if_pos z]
      by_cases c0 : q = 0
      · subst c0
        rw [up_s]
        omega
      · rw [up_n c0]
        exact j3
    · rw [if_neg z]
      exact j3
theorem tr_up {w0 : Tr} {y p t u v : Nat} (hw : trsOK n w0) (hy : y < 11) (hp : p < n) (ht : t < n) (hne : ¬ p = t) (h1 : u ≤ v) (h2 : 0 < v) (h3 : v ≤ 1000) (hl : w0.1 y < 12) : trsOK n (trU w0 y p t u v) := by
  intro q hq
  obtain ⟨j1, j2⟩ := hw q hq
  unfold trU
  show va_up w0.1 y (w0.1 y + 1) q ≤ 12 ∧ trOK n (va_up w0.2.1 (y * 12 + w0.1 y) p) (va_up w0.2.2.1 (y * 12 + w0.1 y) t) (va_up w0.2.2.2.1 (y * 12 + w0.1 y) u) (va_up w0.2.2.2.2 (y * 12 + w0.1 y) v) q (va_up w0.1 y (w0.1 y + 1) q)
  by_cases c : q = y
  · subst c
    rw [up_s]
    refine ⟨by omega, fun i hi => ?_⟩
    by_cases c2 : i = w0.1 q
    · subst c2
      rw [up_s, up_s, up_s, up_s]
      exact ⟨hp, ht, hne, h1, h2, h3⟩
    · rw [up_n (by omega), up_n (by omega), up_n (by omega), up_n (by omega)]
      exact j2 i (by omega)
  · rw [up_n c]
    refine ⟨j1, fun i hi => ?_⟩
    have : ¬ q * 12 + i = y * 12 + w0.1 y := by omega
    rw [up_n this, up_n this, up_n this, up_n this]
    exact j2 i hi
theorem si_works {y p t u v : Nat} (hI : ssI n mk kd tx len R lm ft A Bs wk ev w) (hy : y < 11) (hp : p < n) (ht : t < n) (hne : ¬ p = t) (h1 : u ≤ v) (h2 : 0 < v) (h3 : v ≤ 1000) (hl : wk.1 y < 12) : ssI n mk kd tx len R lm ft A Bs (trU wk y p t u v) ev w := by
  obtain ⟨i1, i2, i3, i4, i5, i6, i7, i8, i9, i10, i11⟩ := hI
  exact ⟨i1, i2, i3, i4, i5, i6, i7, i8, tr_up i9 hy hp ht hne h1 h2 h3 hl, i10, i11⟩
theorem si_event {y p t u v : Nat} (hI : ssI n mk kd tx len R lm ft A Bs wk ev w) (hy : y < 11) (hp : p < n) (ht : t < n) (hne : ¬ p = t) (h1 : u ≤ v) (h2 : 0 < v) (h3 : v ≤ 1000) (hl : ev.1 y < 12) : ssI n mk kd tx len R lm ft A Bs wk (trU ev y p t u v) w := by
  obtain ⟨i1, i2, i3, i4, i5, i6, i7, i8, i9, i10, i11⟩ := hI
  exact ⟨i1, i2, i3, i4, i5, i6, i7, i8, i9, tr_up i10 hy hp ht hne h1 h2 h3 hl, i11⟩
theorem si_part2 {t : Nat} {x : Int} (hI : ssI n mk kd tx len R lm ft A Bs wk ev w) (hx : x.natAbs ≤ 1000000) : ssI n mk kd tx len R lm ft A Bs wk ev (va_up w t x) := by
  obtain ⟨i1, i2, i3, i4, i5, i6, i7, i8, i9, i10, i11⟩ := hI
  refine ⟨i1, i2, i3, i4, i5, i6, i7, i8, i9, i10, fun q hq => ?_⟩
  by_cases c : q = t
  · subst c
    rw [up_s]
    exact hx
  · rw [up_n c]
    exact i11 q hq
theorem si_grade {R' : Rl} (hI : ssI n mk kd tx len R lm ft A Bs wk ev w) (hR : rlOK n R') : ssI n mk kd tx 0 R' lm ft A Bs wk ev w := by
  obtain ⟨i1, i2, i3, i4, i5, i6, i7, i8, i9, i10, i11⟩ := hI
  exact ⟨i1, i2, i3, ⟨by omega, fun i hi => absurd hi (by omega)⟩, hR, i6, i7, i8, i9, i10, i11⟩
theorem cnt_mono {q : Nat → Bool} {a : Nat} : ∀ d, cnt q a ≤ cnt q (a + d)
  | 0 => Nat.le_refl _
  | d + 1 => Nat.le_trans (cnt_mono d) (by rw [show a + (d + 1) = a + d + 1 from rfl, cnt_s (f := q) (q := a + d)]; omega)
theorem cnt_lt {q : Nat → Bool} {a b : Nat} (ha : q a = true) (h : a < b) : cnt q a < cnt q b := by
  have h1 := cnt_mono (q := q) (a := a + 1) (b - (a + 1))
  rw [show a + 1 + (b - (a + 1)) = b by omega, cnt_s (f := q) (q := a), if_pos ha] at h1
  omega
theorem cnt_inj {q : Nat → Bool} {a b : Nat} (ha : q a = true) (hb : q b = true) (e : cnt q a = cnt q b) : a = b := by
  rcases Nat.lt_trichotomy a b with z | z | z
  · have := cnt_lt ha z; omega
  · exact z
  · have := cnt_lt hb z; omega
end PR
