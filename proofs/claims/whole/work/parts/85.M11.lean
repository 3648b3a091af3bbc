/-! the reference: what was told; small calls -/
def trR (c f : Nat → Nat) (w : Tr) : Prop := (∀ y, y < 11 → c y = w.1 y) ∧ ∀ y, y < 11 → ∀ i, i < w.1 y → f (4 * (12 * y + i)) = w.2.1 (y * 12 + i) ∧ f (4 * (12 * y + i) + 1) = w.2.2.1 (y * 12 + i) ∧ f (4 * (12 * y + i) + 2) = w.2.2.2.1 (y * 12 + i) ∧ f (4 * (12 * y + i) + 3) = w.2.2.2.2 (y * 12 + i)
def stR (s : MV) (n ft : Nat) (A Bs : Nat → Nat) : Prop := s.st = ft ∧ (ft = 0 → ∀ i, i < n → s.sa i = 0 ∧ s.sb i = 0 ∧ A i = A0 i ∧ Bs i = 1) ∧ (¬ ft = 0 → ∀ i, i < n → s.sa i = A i ∧ Bs i = (if s.sb i = 0 then 1 else s.sb i))
def fcM (s : MV) (n : Nat) (f : Nat → (Nat → Nat) × Nat) : Prop := s.up < 12 ∧ (∀ y, y ≤ s.up → s.tl y = 0 → (∀ z, z ≤ y → ¬ lng n (f z).1 (f z).2) ∧ ∀ i, i < n → Fq s.R (6 * y + i) ((f y).1 i) (f y).2) ∧ ∀ y, y ≤ s.up → ¬ s.tl y = 0 → ∃ z, z ≤ y ∧ lng n (f z).1 (f z).2
def Rel (s : MV) (n : Nat) (mk : Nat → Option Nat) (kd tx : Nat → Nat) (len : Nat) (R : Rl) (lm ft : Nat) (A Bs : Nat → Nat) (wk ev : Tr) (w : Nat → Int) : Prop :=
  s.n = n ∧ bas s mk R ∧ (∀ t, t < 10 → s.kd t = kd t) ∧ (s.sz = len ∧ ∀ i, i < len → s.tx i = tx i) ∧ s.lm = lm ∧ stR s n ft A Bs ∧ trR s.wc s.wk wk ∧ trR s.ec s.ev ev ∧ (∀ i, i < n → s.ws i = Int64.ofInt (w i)) ∧ prOK s ∧ (∃ e, Rw s.R 83 (2 ^ 600) e) ∧ (∀ y, y < 12 → s.tl y ≤ 1) ∧ s.fr ≤ 1 ∧ (s.fr = 1 → fcM s n (fa n mk R lm A Bs wk ev))
section M11
variable {g : xG} {Q : mQ} {P : pQ} {s : MV} {x0 : Nat} {n len lm ft : Nat} {mk : Nat → Option Nat} {kd tx A Bs : Nat → Nat} {R : Rl} {wk ev : Tr} {w : Nat → Int}
theorem Rel.cd {v : Nat} (h : Rel s n mk kd tx len R lm ft A Bs wk ev w) : Rel (MV.u_cd s v) n mk kd tx len R lm ft A Bs wk ev w := h
theorem Rel.cg {v : Nat} {C G : Nat → Nat} (h : Rel s n mk kd tx len R lm ft A Bs wk ev w) : Rel (MV.u_gp (MV.u_ct (MV.u_cd s v) C) G) n mk kd tx len R lm ft A Bs wk ev w := h
theorem Rel.cg' {C G : Nat → Nat} (h : Rel s n mk kd tx len R lm ft A Bs wk ev w) : Rel (MV.u_gp (MV.u_ct s C) G) n mk kd tx len R lm ft A Bs wk ev w := h
theorem r_mark {a b c d : Int32} (hI : ssI n mk kd tx len R lm ft A Bs wk ev w) (hX : Rel s n mk kd tx len R lm ft A Bs wk ev w)
    (hp1 : ∀ t y i z, t < 10 → y < 12 → i < 4 → z < n → a = nI t → b = nI y → c = nI i → d = nI z → ∀ s', s'.cd = 0 → Rel s' n (va_up mk ((t * 12 + y) * 4 + i) (some z)) kd tx len R lm ft A Bs wk ev w → Q (some (.int (nI 1))) s')
    (hpx : ∀ t y i, t < 10 → y < 12 → i < 4 → a = nI t → b = nI y → c = nI i → (∀ z, z < n → ¬ d = nI z) → ∀ s', s'.cd = 1 → Rel s' n mk kd tx len R lm ft A Bs wk ev w → Q (some (.int (nI 0))) s')
    (hp0 : (∀ t y i, t < 10 → y < 12 → i < 4 → a = nI t → b = nI y → ¬ c = nI i) → ∀ s', s'.cd = 0 → Rel s' n mk kd tx len R lm ft A Bs wk ev w → Q (some (.int (nI 0))) s') : CtM g M_X10_mark [.ref x0, .int a, .int b, .int c, .int d] x0 s Q := by
  have hX0 := hX
  obtain ⟨rfl, ⟨q1, q2, q3, q4⟩, q5, q6, q7, q8, q9, q10, q11, q12, q13, q14, q15, q16⟩ := hX
  refine m_mark q1 (fun t y i z ht hy hi hz ea eb ec ed => ?_) (fun t y i ht hy hi ea eb ec hno => hpx t y i ht hy hi ea eb ec hno _ rfl hX0.cd) (fun h => hp0 h _ rfl hX0.cd)
  refine hp1 t y i z ht hy hi hz ea eb ec ed _ rfl ⟨rfl, ⟨q1, fun j hj => ?_, fun j v hj hv => ?_, q4⟩, q5, q6, q7, q8, q9, q10, q11, q12, q13, q14, Nat.zero_le _, fun h => absurd h (by show ¬ (0 : Nat) = 1; decide)⟩
  · show va_up s.mk (4 * (12 * t + y) + i) (nI z) j = oI (va_up mk ((t * 12 + y) * 4 + i) (some z) j)
    rw [show 4 * (12 * t + y) + i = (t * 12 + y) * 4 + i by omega]
    by_cases k : j = (t * 12 + y) * 4 + i
    · subst k; rw [up_s, up_s]; rfl
    · rw [up_n k, up_n k]; exact q2 j hj
  · by_cases k : j = (t * 12 + y) * 4 + i
    · subst k
      rw [up_s] at hv
      have := Option.some.inj hv
      show v < s.n
      omega
    · rw [up_n k] at hv; exact q3 j v hj hv
theorem r_kind {a b : Int32} (hX : Rel s n mk kd tx len R lm ft A Bs wk ev w)
    (hp1 : ∀ t k, t < 10 → k < 4 → a = nI t → b = nI k → ∀ s', Rel s' n mk (va_up kd t k) tx len R lm ft A Bs wk ev w → Q (some (.int (nI 1))) s')
    (hp0 : (∀ t k, t < 10 → k < 4 → a = nI t → ¬ b = nI k) → ∀ s', Rel s' n mk kd tx len R lm ft A Bs wk ev w → Q (some (.int (nI 0))) s') : CtM g M_X10_kind [.ref x0, .int a, .int b] x0 s Q := by
  have hX0 := hX
  obtain ⟨rfl, q4, q5, q6, q7, q8, q9, q10, q11, q12, q13, q14, q15, q16⟩ := hX
  refine m_kind (fun t k ht hk ea eb => hp1 t k ht hk ea eb _ ⟨rfl, q4, fun i hi => ?_, q6, q7, q8, q9, q10, q11, q12, q13, q14, q15, q16⟩) (fun h => hp0 h _ hX0.cd)
  show va_up s.kd t k i = va_up kd t k i
  by_cases z : i = t
  · subst z; rw [up_s, up_s]
  · rw [up_n z, up_n z]; exact q5 i hi
theorem r_unit {a : Int32} (hI : ssI n mk kd tx len R lm ft A Bs wk ev w) (hX : Rel s n mk kd tx len R lm ft A Bs wk ev w)
    (hp1 : ∀ u, 32 ≤ u → u ≤ 126 → a = nI u → len < 120 → ∀ s', Rel s' n mk kd (va_up tx len u) (len + 1) R lm ft A Bs wk ev w → Q (some (.int (nI 1))) s')
    (hp2 : ∀ u, 32 ≤ u → u ≤ 126 → a = nI u → len = 120 → ∀ s', Rel s' n mk kd tx len R lm ft A Bs wk ev w → Q (some (.int (nI 0))) s')
    (hp0 : (∀ u, 32 ≤ u → u ≤ 126 → ¬ a = nI u) → ∀ s', Rel s' n mk kd tx len R lm ft A Bs wk ev w → Q (some (.int (nI 0))) s') : CtM g M_X10_unit [.ref x0, .int a] x0 s Q := by
  have hX0 := hX
  obtain ⟨rfl, q4, q5, ⟨q6, q6'⟩, q7, q8, q9, q10, q11, q12, q13, q14, q15, q16⟩ := hX
  have hl := hI.2.2.2.1.1
  refine m_unit (by omega) (fun u h1 h2 ea hs => hp1 u h1 h2 ea (by omega) _ ⟨rfl, q4, q5, ⟨by show s.sz + 1 = _; omega, fun i hi => ?_⟩, q7, q8, q9, q10, q11, q12, q13, q14, q15, q16⟩) (fun u h1 h2 ea hs => hp2 u h1 h2 ea (by omega) _ hX0.cd) (fun h => hp0 h _ hX0.cd)
  show va_up s.tx s.sz u i = va_up tx len u i
  rw [q6]
  by_cases z : i = len
  · subst z; rw [up_s, up_s]
  · rw [up_n z, up_n z]; exact q6' i (by omega)
theorem r_least {a : Int32} (hX : Rel s n mk kd tx len R lm ft A Bs wk ev w)
    (hp1 : ∀ k, k ≤ 50 → a = nI k → ∀ s', Rel s' n mk kd tx len R k ft A Bs wk ev w → Q (some (.int (nI 1))) s')
    (hp0 : (∀ k, k ≤ 50 → ¬ a = nI k) → ∀ s', Rel s' n mk kd tx len R lm ft A Bs wk ev w → Q (some (.int (nI 0))) s') : CtM g M_X10_least [.ref x0, .int a] x0 s Q := by
  have hX0 := hX
  obtain ⟨rfl, q4, q5, q6, q7, q8, q9, q10, q11, q12, q13, q14, q15, q16⟩ := hX
  exact m_least (fun k hk ea => hp1 k hk ea _ ⟨rfl, q4, q5, q6, rfl, q8, q9, q10, q11, q12, q13, q14, Nat.zero_le _, fun h => absurd h (by show ¬ (0 : Nat) = 1; decide)⟩) (fun h => hp0 h _ hX0.cd)
theorem r_start {a : Int32} {xa xb : Int64} (hX : Rel s n mk kd tx len R lm ft A Bs wk ev w)
    (hp1 : ∀ t u v, t < n → u ≤ v → 0 < v → v ≤ 1000 → a = nI t → xa = lN u → xb = lN v → ∀ s', Rel s' n mk kd tx len R lm 1 (stA ft A t u) (va_up Bs t v) wk ev w → Q (some (.int (nI 1))) s')
    (hp0 : (∀ t u v, t < n → u ≤ v → 0 < v → v ≤ 1000 → a = nI t → xa = lN u → ¬ xb = lN v) → ∀ s', Rel s' n mk kd tx len R lm ft A Bs wk ev w → Q (some (.int (nI 0))) s') : CtM g M_X10_start [.ref x0, .int a, .long xa, .long xb] x0 s Q := by
  have hX0 := hX
  obtain ⟨rfl, q4, q5, q6, q7, ⟨q8, q8a, q8b⟩, q9, q10, q11, q12, q13, q14, q15, q16⟩ := hX
  refine m_start q4.1 (fun t u v ht h1 h2 h3 ea e1 e2 => hp1 t u v ht h1 h2 h3 ea e1 e2 _ ⟨rfl, q4, q5, q6, q7, ⟨rfl, fun h => absurd h (by decide), fun _ i hi => ?_⟩, q9, q10, q11, q12, q13, q14, Nat.zero_le _, fun h => absurd h (by show ¬ (0 : Nat) = 1; decide)⟩) (fun h => hp0 h _ hX0.cd)
  replace hi : i < s.n := hi
  show va_up s.sa t u i = stA ft A t u i ∧ va_up Bs t v i = (if va_up s.sb t v i = 0 then 1 else va_up s.sb t v i)
  unfold stA
  by_cases z : i = t
  · subst z
    rw [up_s, up_s, up_s, up_s, if_neg (by omega)]
    exact ⟨rfl, rfl⟩
  · rw [up_n z, up_n z, up_n z, up_n z]
    by_cases k : ft = 0
    · obtain ⟨k1, k2, k3, k4⟩ := q8a k i hi
      rw [if_pos k, k1, k2, k4]
      refine ⟨?_, rfl⟩
      by_cases y : i = 0
      · subst y; rw [up_s]
      · rw [up_n y, k3]
        unfold A0
        rw [up_n y]
    · rw [if_neg k]
      exact q8b k i hi
theorem r_part2 {a : Int32} {x : Int64} (hX : Rel s n mk kd tx len R lm ft A Bs wk ev w)
    (hp1 : ∀ t, t < n → a = nI t → x.toInt.natAbs ≤ 1000000 → ∀ s', Rel s' n mk kd tx len R lm ft A Bs wk ev (va_up w t x.toInt) → Q (some (.int (nI 1))) s')
    (hp0 : (∀ t, t < n → a = nI t → ¬ x.toInt.natAbs ≤ 1000000) → ∀ s', Rel s' n mk kd tx len R lm ft A Bs wk ev w → Q (some (.int (nI 0))) s') : CtM g M_X10_part2 [.ref x0, .int a, .long x] x0 s Q := by
  have hX0 := hX
  obtain ⟨rfl, q4, q5, q6, q7, q8, q9, q10, q11, q12, q13, q14, q15, q16⟩ := hX
  have c1 : (-1000000 : Int64).toInt = -1000000 := by decide
  have c2 : (lN 1000000).toInt = 1000000 := lN_toInt (by decide)
  refine CtM.of (by decide +kernel) (Nat.le_of_ble_eq_true rfl) (v_X10_part2_0 (m_isState q4.1 (fun t ht ea => ⟨1, rfl, by decide, (fun z => absurd z (by decide)), fun _ => CtP.of (by decide +kernel) (Nat.le_of_ble_eq_true rfl) (v_X10_in_0 ⟨fun z => ⟨0, rfl, by decide, fun q => absurd rfl q, fun _ => hp0 (fun u hu eu hx => ?_) _ hX0.cd⟩, fun z => ⟨fun z2 => ⟨0, rfl, by decide, fun q => absurd rfl q, fun _ => hp0 (fun u hu eu hx => ?_) _ hX0.cd⟩, fun z2 => ⟨1, rfl, by decide, fun _ => ⟨t, ea, ?_, hp1 t ht ea ?_ _ ⟨rfl, q4, q5, q6, q7, q8, q9, q10, fun i hi => ?_, q12, q13, q14, q15, q16⟩⟩, fun z => absurd z (by decide)⟩⟩⟩)⟩) (fun z => ⟨0, rfl, by decide, fun _ => hp0 (fun u hu eu => absurd eu (z u hu)) _ hX0.cd, fun q => absurd rfl q⟩)))
  · rw [Int64.lt_iff_toInt_lt, c1] at z
    omega
  · rw [Int64.lt_iff_toInt_lt, c2] at z2
    omega
  · have h1 : t < s.n := ht
    have h2 : s.n ≤ 6 := q4.1.2
    omega
  · rw [Int64.lt_iff_toInt_lt, c1] at z
    rw [Int64.lt_iff_toInt_lt, c2] at z2
    omega
  · show va_up s.ws t x i = Int64.ofInt (va_up w t x.toInt i)
    by_cases y : i = t
    · subst y
      rw [up_s, up_s]
      exact (Int64.ofInt_toInt x).symm
    · rw [up_n y, up_n y]; exact q11 i hi
theorem trR.up {c f : Nat → Nat} {w : Tr} {y a b u v : Nat} (h : trR c f w) (hy : y < 11) (hk : w.1 y < 12) (hall : ∀ z, z < 11 → w.1 z ≤ 12) : trR (va_up c y (c y + 1)) (va_up (va_up (va_up (va_up f (4 * (12 * y + c y)) a) (4 * (12 * y + c y) + 1) b) (4 * (12 * y + c y) + 2) u) (4 * (12 * y + c y) + 3) v) (trU w y a b u v) := by
  obtain ⟨h1, h2⟩ := h
  have hc := h1 y hy
  rw [hc]
  refine ⟨fun z hz => ?_, fun z hz i hi => ?_⟩
  · show _ = va_up w.1 y (w.1 y + 1) z
    by_cases k : z = y
    · subst k; rw [up_s, up_s]
    · rw [up_n k, up_n k]; exact h1 z hz
  · replace hi : i < va_up w.1 y (w.1 y + 1) z := hi
    have hzz := hall z hz
    show _ = va_up w.2.1 (y * 12 + w.1 y) a _ ∧ _ = va_up w.2.2.1 (y * 12 + w.1 y) b _ ∧ _ = va_up w.2.2.2.1 (y * 12 + w.1 y) u _ ∧ _ = va_up w.2.2.2.2 (y * 12 + w.1 y) v _
    by_cases k : z = y
    · subst k
      rw [up_s] at hi
      by_cases k2 : i = w.1 z
      · subst k2
        refine ⟨?_, ?_, ?_, ?_⟩
        · rw [up_n (by omega), up_n (by omega), up_n (by omega), up_s, up_s]
        · rw [up_n (by omega), up_n (by omega), up_s, up_s]
        · rw [up_n (by omega), up_s, up_s]
        · rw [up_s, up_s]
      · obtain ⟨j1, j2, j3, j4⟩ := h2 z hz i (by omega)
        rw [up_n (by omega), up_n (by omega), up_n (by omega), up_n (by omega), up_n (by omega), up_n (by omega), up_n (by omega), up_n (by omega), up_n (by omega), up_n (by omega), up_n (by omega), up_n (by omega), up_n (by omega), up_n (by omega), up_n (by omega), up_n (by omega), up_n (by omega), up_n (by omega), up_n (by omega), up_n (by omega)]
        exact ⟨j1, j2, j3, j4⟩
    · rw [up_n k] at hi
      obtain ⟨j1, j2, j3, j4⟩ := h2 z hz i hi
      rw [up_n (by omega), up_n (by omega), up_n (by omega), up_n (by omega), up_n (by omega), up_n (by omega), up_n (by omega), up_n (by omega), up_n (by omega), up_n (by omega), up_n (by omega), up_n (by omega), up_n (by omega), up_n (by omega), up_n (by omega), up_n (by omega), up_n (by omega), up_n (by omega), up_n (by omega), up_n (by omega)]
      exact ⟨j1, j2, j3, j4⟩
theorem m_tell_w {a b c : Int32} {xa xb : Int64} (hn : 2 ≤ s.n ∧ s.n ≤ 6) (hw : ∀ y, y < 11 → s.wc y ≤ 12)
    (hp1 : ∀ y f t u v, y < 11 → f < s.n → t < s.n → ¬ f = t → u ≤ v → 0 < v → v ≤ 1000 → a = nI y → b = nI f → c = nI t → xa = lN u → xb = lN v → s.wc y < 12 → Q (some (.int (nI 1))) (MV.u_fr (MV.u_wc (MV.u_wk (MV.u_cd s 0) (va_up (va_up (va_up (va_up s.wk (4 * (12 * y + s.wc y)) f) (4 * (12 * y + s.wc y) + 1) t) (4 * (12 * y + s.wc y) + 2) u) (4 * (12 * y + s.wc y) + 3) v)) (va_up s.wc y (s.wc y + 1))) 0))
    (hp2 : ∀ y f t u v, y < 11 → f < s.n → t < s.n → ¬ f = t → u ≤ v → 0 < v → v ≤ 1000 → a = nI y → b = nI f → c = nI t → xa = lN u → xb = lN v → s.wc y = 12 → Q (some (.int (nI 0))) (MV.u_cd s 0))
    (hp0 : (∀ y f t u v, y < 11 → f < s.n → t < s.n → ¬ f = t → u ≤ v → 0 < v → v ≤ 1000 → a = nI y → b = nI f → c = nI t → xa = lN u → ¬ xb = lN v) → Q (some (.int (nI 0))) (MV.u_cd s 0)) : CtM g M_X10_tell [.ref x0, .ref (x0 + 13), .ref (x0 + 12), .int a, .int b, .int c, .long xa, .long xb] x0 s Q := by
  refine CtM.of (by decide +kernel) (Nat.le_of_ble_eq_true rfl) (v_X10_tell_w_0 (m_in32 (by decide) (by decide) (fun y _ hy ea => ⟨1, rfl, by decide, (fun z => absurd z (by decide)), fun _ => ?_⟩) (fun z => ⟨0, rfl, by decide, fun _ => hp0 (fun y f t u v hy _ _ _ _ _ _ ea => absurd ea (z y (by omega) (by omega))), fun q => absurd rfl q⟩)))
  refine m_isState (s := (MV.u_cd s 0)) hn (fun f hf eb => ⟨1, rfl, by decide, (fun z => absurd z (by decide)), fun _ => ?_⟩) (fun z => ⟨0, rfl, by decide, fun _ => hp0 (fun y f t u v _ hf _ _ _ _ _ _ eb => absurd eb (z f hf)), fun q => absurd rfl q⟩)
  refine m_isState (s := (MV.u_cd s 0)) hn (fun t ht ec => ⟨1, rfl, by decide, (fun z => absurd z (by decide)), fun _ => ⟨fun e => ?_, fun e => ?_⟩⟩) (fun z => ⟨0, rfl, by decide, fun _ => hp0 (fun y f t u v _ _ ht _ _ _ _ _ _ ec => absurd ec (z t ht)), fun q => absurd rfl q⟩)
  · replace hf : f < s.n := hf
    replace ht : t < s.n := ht
    refine hp0 (fun y f' t' u v _ hf' ht' hft _ _ _ _ eb' ec' => absurd ?_ hft)
    have h1 : nI f' = nI t' := by rw [← eb', ← ec', e]
    exact (nI_eq (by omega) (by omega)).mp h1
  · replace hf : f < s.n := hf
    replace ht : t < s.n := ht
    have hft : ¬ f = t := fun z => e (by rw [eb, ec, z])
    have hwy := hw y (by omega)
    refine m_isFraction (fun u v h1 h2 h3 e1 e2 => ⟨1, rfl, by decide, (fun z => absurd z (by decide)), fun _ => ?_⟩) (fun z => ⟨0, rfl, by decide, fun _ => hp0 (fun y f t u v _ _ _ _ h1 h2 h3 _ _ _ e1 => z u v h1 h2 h3 e1), fun q => absurd rfl q⟩)
    refine ⟨y, ea, by omega, ⟨by show s.wc y < _; omega, by decide⟩, fun q => ?_, fun q => hp2 y f t u v (by omega) hf ht hft h1 h2 h3 ea eb ec e1 e2 q⟩
    replace q : ¬ s.wc y = 12 := q
    have e4 : nI 4 * (nI 12 * a + nI (s.wc y)) = nI (4 * (12 * y + s.wc y)) := by rw [ea, pk_mul, nI_add, pk_mul]
    refine ⟨y, ea, by omega, 4 * (12 * y + s.wc y), e4, f, eb, by omega, 4 * (12 * y + s.wc y) + 1, by rw [e4, nI_add], t, ec, by omega, 4 * (12 * y + s.wc y) + 2, by rw [e4, nI_add], u, by rw [e1, lN_i], by omega, 4 * (12 * y + s.wc y) + 3, by rw [e4, nI_add], v, by rw [e2, lN_i], by omega, y, ea, by omega, y, ea, by omega, ?_⟩
    exact hp1 y f t u v (by omega) hf ht hft h1 h2 h3 ea eb ec e1 e2 (by omega)
theorem m_tell_e {a b c : Int32} {xa xb : Int64} (hn : 2 ≤ s.n ∧ s.n ≤ 6) (hw : ∀ y, y < 11 → s.ec y ≤ 12)
    (hp1 : ∀ y f t u v, y < 11 → f < s.n → t < s.n → ¬ f = t → u ≤ v → 0 < v → v ≤ 1000 → a = nI y → b = nI f → c = nI t → xa = lN u → xb = lN v → s.ec y < 12 → Q (some (.int (nI 1))) (MV.u_fr (MV.u_ec (MV.u_ev (MV.u_cd s 0) (va_up (va_up (va_up (va_up s.ev (4 * (12 * y + s.ec y)) f) (4 * (12 * y + s.ec y) + 1) t) (4 * (12 * y + s.ec y) + 2) u) (4 * (12 * y + s.ec y) + 3) v)) (va_up s.ec y (s.ec y + 1))) 0))
    (hp2 : ∀ y f t u v, y < 11 → f < s.n → t < s.n → ¬ f = t → u ≤ v → 0 < v → v ≤ 1000 → a = nI y → b = nI f → c = nI t → xa = lN u → xb = lN v → s.ec y = 12 → Q (some (.int (nI 0))) (MV.u_cd s 0))
    (hp0 : (∀ y f t u v, y < 11 → f < s.n → t < s.n → ¬ f = t → u ≤ v → 0 < v → v ≤ 1000 → a = nI y → b = nI f → c = nI t → xa = lN u → ¬ xb = lN v) → Q (some (.int (nI 0))) (MV.u_cd s 0)) : CtM g M_X10_tell [.ref x0, .ref (x0 + 15), .ref (x0 + 14), .int a, .int b, .int c, .long xa, .long xb] x0 s Q := by
  refine CtM.of (by decide +kernel) (Nat.le_of_ble_eq_true rfl) (v_X10_tell_e_0 (m_in32 (by decide) (by decide) (fun y _ hy ea => ⟨1, rfl, by decide, (fun z => absurd z (by decide)), fun _ => ?_⟩) (fun z => ⟨0, rfl, by decide, fun _ => hp0 (fun y f t u v hy _ _ _ _ _ _ ea => absurd ea (z y (by omega) (by omega))), fun q => absurd rfl q⟩)))
  refine m_isState (s := (MV.u_cd s 0)) hn (fun f hf eb => ⟨1, rfl, by decide, (fun z => absurd z (by decide)), fun _ => ?_⟩) (fun z => ⟨0, rfl, by decide, fun _ => hp0 (fun y f t u v _ hf _ _ _ _ _ _ eb => absurd eb (z f hf)), fun q => absurd rfl q⟩)
  refine m_isState (s := (MV.u_cd s 0)) hn (fun t ht ec => ⟨1, rfl, by decide, (fun z => absurd z (by decide)), fun _ => ⟨fun e => ?_, fun e => ?_⟩⟩) (fun z => ⟨0, rfl, by decide, fun _ => hp0 (fun y f t u v _ _ ht _ _ _ _ _ _ ec => absurd ec (z t ht)), fun q => absurd rfl q⟩)
  · replace hf : f < s.n := hf
    replace ht : t < s.n := ht
    refine hp0 (fun y f' t' u v _ hf' ht' hft _ _ _ _ eb' ec' => absurd ?_ hft)
    have h1 : nI f' = nI t' := by rw [← eb', ← ec', e]
    exact (nI_eq (by omega) (by omega)).mp h1
  · replace hf : f < s.n := hf
    replace ht : t < s.n := ht
    have hft : ¬ f = t := fun z => e (by rw [eb, ec, z])
    have hwy := hw y (by omega)
    refine m_isFraction (fun u v h1 h2 h3 e1 e2 => ⟨1, rfl, by decide, (fun z => absurd z (by decide)), fun _ => ?_⟩) (fun z => ⟨0, rfl, by decide, fun _ => hp0 (fun y f t u v _ _ _ _ h1 h2 h3 _ _ _ e1 => z u v h1 h2 h3 e1), fun q => absurd rfl q⟩)
    refine ⟨y, ea, by omega, ⟨by show s.ec y < _; omega, by decide⟩, fun q => ?_, fun q => hp2 y f t u v (by omega) hf ht hft h1 h2 h3 ea eb ec e1 e2 q⟩
    replace q : ¬ s.ec y = 12 := q
    have e4 : nI 4 * (nI 12 * a + nI (s.ec y)) = nI (4 * (12 * y + s.ec y)) := by rw [ea, pk_mul, nI_add, pk_mul]
    refine ⟨y, ea, by omega, 4 * (12 * y + s.ec y), e4, f, eb, by omega, 4 * (12 * y + s.ec y) + 1, by rw [e4, nI_add], t, ec, by omega, 4 * (12 * y + s.ec y) + 2, by rw [e4, nI_add], u, by rw [e1, lN_i], by omega, 4 * (12 * y + s.ec y) + 3, by rw [e4, nI_add], v, by rw [e2, lN_i], by omega, y, ea, by omega, y, ea, by omega, ?_⟩
    exact hp1 y f t u v (by omega) hf ht hft h1 h2 h3 ea eb ec e1 e2 (by omega)
theorem r_works {a b c : Int32} {xa xb : Int64} (hI : ssI n mk kd tx len R lm ft A Bs wk ev w) (hX : Rel s n mk kd tx len R lm ft A Bs wk ev w)
    (hp1 : ∀ y f t u v, y < 11 → f < n → t < n → ¬ f = t → u ≤ v → 0 < v → v ≤ 1000 → a = nI y → b = nI f → c = nI t → xa = lN u → xb = lN v → wk.1 y < 12 → ∀ s', Rel s' n mk kd tx len R lm ft A Bs (trU wk y f t u v) ev w → Q (some (.int (nI 1))) s')
    (hp2 : ∀ y f t u v, y < 11 → f < n → t < n → ¬ f = t → u ≤ v → 0 < v → v ≤ 1000 → a = nI y → b = nI f → c = nI t → xa = lN u → xb = lN v → wk.1 y = 12 → ∀ s', Rel s' n mk kd tx len R lm ft A Bs wk ev w → Q (some (.int (nI 0))) s')
    (hp0 : (∀ y f t u v, y < 11 → f < n → t < n → ¬ f = t → u ≤ v → 0 < v → v ≤ 1000 → a = nI y → b = nI f → c = nI t → xa = lN u → ¬ xb = lN v) → ∀ s', Rel s' n mk kd tx len R lm ft A Bs wk ev w → Q (some (.int (nI 0))) s') : CtM g M_X10_works [.ref x0, .int a, .int b, .int c, .long xa, .long xb] x0 s Q := by
  have hX0 := hX
  obtain ⟨rfl, q4, q5, q6, q7, q8, q9, q10, q11, q12, q13, q14, q15, q16⟩ := hX
  have hw : ∀ y, y < 11 → wk.1 y ≤ 12 := fun y hy => (hI.2.2.2.2.2.2.2.2.1 y hy).1
  have e : ∀ y, y < 11 → s.wc y = wk.1 y := q9.1
  refine CtM.of (by decide +kernel) (Nat.le_of_ble_eq_true rfl) (v_X10_works_0 (m_tell_w q4.1 (fun y hy => by rw [e y hy]; exact hw y hy) (fun y f t u v hy hf ht hft h1 h2 h3 ea eb ec e1 e2 hk => ⟨1, rfl, by decide, ?_⟩) (fun y f t u v hy hf ht hft h1 h2 h3 ea eb ec e1 e2 hk => ⟨0, rfl, by decide, hp2 y f t u v hy hf ht hft h1 h2 h3 ea eb ec e1 e2 (by rw [← e y hy]; exact hk) _ hX0.cd⟩) (fun h => ⟨0, rfl, by decide, hp0 h _ hX0.cd⟩)))
  rw [e y hy] at hk
  exact hp1 y f t u v hy hf ht hft h1 h2 h3 ea eb ec e1 e2 hk _ ⟨rfl, q4, q5, q6, q7, q8, trR.up q9 hy hk hw, q10, q11, q12, q13, q14, Nat.zero_le _, fun h => absurd h (by show ¬ (0 : Nat) = 1; decide)⟩
theorem r_event {a b c : Int32} {xa xb : Int64} (hI : ssI n mk kd tx len R lm ft A Bs wk ev w) (hX : Rel s n mk kd tx len R lm ft A Bs wk ev w)
    (hp1 : ∀ y f t u v, y < 11 → f < n → t < n → ¬ f = t → u ≤ v → 0 < v → v ≤ 1000 → a = nI y → b = nI f → c = nI t → xa = lN u → xb = lN v → ev.1 y < 12 → ∀ s', Rel s' n mk kd tx len R lm ft A Bs wk (trU ev y f t u v) w → Q (some (.int (nI 1))) s')
    (hp2 : ∀ y f t u v, y < 11 → f < n → t < n → ¬ f = t → u ≤ v → 0 < v → v ≤ 1000 → a = nI y → b = nI f → c = nI t → xa = lN u → xb = lN v → ev.1 y = 12 → ∀ s', Rel s' n mk kd tx len R lm ft A Bs wk ev w → Q (some (.int (nI 0))) s')
    (hp0 : (∀ y f t u v, y < 11 → f < n → t < n → ¬ f = t → u ≤ v → 0 < v → v ≤ 1000 → a = nI y → b = nI f → c = nI t → xa = lN u → ¬ xb = lN v) → ∀ s', Rel s' n mk kd tx len R lm ft A Bs wk ev w → Q (some (.int (nI 0))) s') : CtM g M_X10_event [.ref x0, .int a, .int b, .int c, .long xa, .long xb] x0 s Q := by
  have hX0 := hX
  obtain ⟨rfl, q4, q5, q6, q7, q8, q9, q10, q11, q12, q13, q14, q15, q16⟩ := hX
  have hw : ∀ y, y < 11 → ev.1 y ≤ 12 := fun y hy => (hI.2.2.2.2.2.2.2.2.2.1 y hy).1
  have e : ∀ y, y < 11 → s.ec y = ev.1 y := q10.1
  refine CtM.of (by decide +kernel) (Nat.le_of_ble_eq_true rfl) (v_X10_event_0 (m_tell_e q4.1 (fun y hy => by rw [e y hy]; exact hw y hy) (fun y f t u v hy hf ht hft h1 h2 h3 ea eb ec e1 e2 hk => ⟨1, rfl, by decide, ?_⟩) (fun y f t u v hy hf ht hft h1 h2 h3 ea eb ec e1 e2 hk => ⟨0, rfl, by decide, hp2 y f t u v hy hf ht hft h1 h2 h3 ea eb ec e1 e2 (by rw [← e y hy]; exact hk) _ hX0.cd⟩) (fun h => ⟨0, rfl, by decide, hp0 h _ hX0.cd⟩)))
  rw [e y hy] at hk
  exact hp1 y f t u v hy hf ht hft h1 h2 h3 ea eb ec e1 e2 hk _ ⟨rfl, q4, q5, q6, q7, q8, q9, trR.up q10 hy hk hw, q11, q12, q13, q14, Nat.zero_le _, fun h => absurd h (by show ¬ (0 : Nat) = 1; decide)⟩
end M11
