/-! StateShares: what it answers -/
def agr (mk : Nat → Option Nat) (R : Rl) (i : Nat) : Option Nat := grd R (fun p => mk (i * 4 + p))
theorem ct_congr {gr gr' : Nat → Option Nat} {a b : Nat} (h : ∀ i, i < 120 → gr i = gr' i) : ∀ q, q ≤ 110 → ct gr a b q = ct gr' a b q
  | 0, _ => rfl
  | q + 1, hq => by rw [ct_s, ct_s, ct_congr h q (by omega), h _ (by omega), h _ (by omega)]
theorem tot_congr {gr gr' : Nat → Option Nat} {a : Nat} (h : ∀ i, i < 120 → gr i = gr' i) : ∀ q, q ≤ 110 → tot gr a q = tot gr' a q
  | 0, _ => rfl
  | q + 1, hq => by rw [tot_s, tot_s, tot_congr h q (by omega), h _ (by omega), h _ (by omega)]
theorem aC_congr {gr gr' : Nat → Option Nat} (h : ∀ i, i < 120 → gr i = gr' i) : aC gr = aC gr' := by
  funext i
  exact ct_congr h 110 (by decide)
theorem aT_congr {gr gr' : Nat → Option Nat} (h : ∀ i, i < 120 → gr i = gr' i) : aT gr = aT gr' := by
  funext i
  exact tot_congr h 110 (by decide)
theorem aG_congr {gr gr' : Nat → Option Nat} {lm n : Nat} (h : ∀ i, i < 120 → gr i = gr' i) : aG gr lm n = aG gr' lm n := by
  funext i
  unfold aG
  rw [aT_congr h]
theorem aP_congr {gr gr' : Nat → Option Nat} {lm n : Nat} (h : ∀ i, i < 120 → gr i = gr' i) : aP gr lm n = aP gr' lm n := by
  funext i
  unfold aP
  rw [aC_congr h, aG_congr h]
theorem aB_congr {gr gr' : Nat → Option Nat} {lm n : Nat} (h : ∀ i, i < 120 → gr i = gr' i) : aB gr lm n = aB gr' lm n := by
  funext i
  unfold aB
  rw [aC_congr h, aG_congr h]
def Ss (h : xHp) (S n : Nat) (mk : Nat → Option Nat) (kd tx : Nat → Nat) (len : Nat) (R : Rl) (lm ft : Nat) (A Bs : Nat → Nat) (wk ev : Tr) (w : Nat → Int) : Prop := ∃ old gr C T G P B kn, grOK mk R gr ∧ SsX h S n mk kd tx len R lm ft A Bs wk ev w old gr C T G P B kn
/-- what is foretold, from what was told -/
def fa (n : Nat) (mk : Nat → Option Nat) (R : Rl) (lm : Nat) (A Bs : Nat → Nat) (wk ev : Tr) (y : Nat) : (Nat → Nat) × Nat := fcs n A Bs wk ev (aP (agr mk R) lm n) (aB (agr mk R) lm n) y
theorem aMov {n lm : Nat} {gr : Nat → Option Nat} (hn : n ≤ 6) : movOK n (aP gr lm n) (aB gr lm n) := cur_mov (C := aC gr) (T := aT gr) (G := aG gr lm n) hn ⟨fun _ _ => rfl, fun _ _ => rfl, fun _ _ => rfl, fun _ _ _ _ => rfl, fun _ _ => rfl⟩
theorem fa_ok {n len lm ft : Nat} {mk : Nat → Option Nat} {kd tx A Bs : Nat → Nat} {R : Rl} {wk ev : Tr} {w : Nat → Int} (hI : ssI n mk kd tx len R lm ft A Bs wk ev w) (y : Nat) (hy : y < 12) : fv n (fa n mk R lm A Bs wk ev y).1 (fa n mk R lm A Bs wk ev y).2 := by
  obtain ⟨i1, i2, i3, i4, i5, i6, i7, i8, i9, i10, i11⟩ := hI
  exact (fcs_ok i1 i8 i9 i10 (aMov i1.2) y hy).1
/-- stored shares that are not old say the same -/
theorem fa_of {n len lm ft : Nat} {mk : Nat → Option Nat} {kd tx A Bs : Nat → Nat} {R : Rl} {wk ev : Tr} {w : Nat → Int} {gr : Nat → Option Nat} {C T G P B : Nat → Nat} (hI : ssI n mk kd tx len R lm ft A Bs wk ev w) (hG : grOK mk R gr) (hc : curS n gr lm C T G P B) (y : Nat) (hy : y < 12) : (fcs n A Bs wk ev P B y).2 = (fa n mk R lm A Bs wk ev y).2 ∧ ∀ s, s < n → (fcs n A Bs wk ev P B y).1 s = (fa n mk R lm A Bs wk ev y).1 s := by
  obtain ⟨i1, i2, i3, i4, i5, i6, i7, i8, i9, i10, i11⟩ := hI
  obtain ⟨c1, c2, c3, c4, c5⟩ := hc
  have e : ∀ i, i < 120 → gr i = agr mk R i := hG
  refine fcs_congr i9 i10 (fun f t hf ht => ?_) (fun f hf => ?_) y hy
  · rw [c4 f t hf ht, aP_congr e]
  · rw [c5 f hf, aB_congr e]
theorem lng_no {n y : Nat} {p : Nat → Nat → Nat} {W : Nat → Nat} {e : Nat → Nat → Nat} {ku kl P : Nat → Nat} {D : Nat} (hD : 0 < D) (k : rowOK n p W e ku kl y P D) : ¬ lng n P D := by
  rintro ⟨s, hs, u, l, h1, h2⟩
  obtain ⟨a, b⟩ := k.2.2.2 s hs
  obtain ⟨e1, e2⟩ := h1.uniq hD a
  subst e1; subst e2
  exact h2 b
section SS3
variable {g : xG} {post : xPost} {h : xHp} {nx : Nat}
theorem c_graded {S n len lm ft : Nat} {mk : Nat → Option Nat} {kd tx A Bs : Nat → Nat} {R : Rl} {wk ev : Tr} {w : Nat → Int} {a b : Int32} (hI : ssI n mk kd tx len R lm ft A Bs wk ev w) (hX : Ss h S n mk kd tx len R lm ft A Bs wk ev w) (hp1 : ∀ t y, t < 10 → y < 12 → a = nI t → b = nI y → post (some (.int (oI (agr mk R (t * 12 + y))))) h nx) (hp0 : (∀ t y, t < 10 → y < 12 → a = nI t → ¬ b = nI y) → post (some (.int (-1))) h nx) : Ct g M_X9_graded [.ref S, .int a, .int b] h nx post := by
  obtain ⟨old, gr, C, T, G, P, B, kn, hG, hX⟩ := hX
  obtain ⟨ws, we, nw, nxt, hd, dr, D, so, ch, cu, wy, wg, p, W, e, ku, kl, vu, vl, ⟨x1, x2, x3, x4, x5, x6, x7⟩, ⟨y1, y2, y3, y4, y5, y6⟩⟩ := id hX
  obtain ⟨i1, i2, i3, i4, i5, i6, i7, i8, i9, i10, i11⟩ := id hI
  refine Ct.of (by decide +kernel) (Nat.le_of_ble_eq_true rfl) (v_X9_graded_0 (c_isThing (fun t ht ha => ⟨1, rfl, by decide, fun q => absurd q (by decide), fun _ => c_isYear (fun y hy hb => ⟨1, rfl, by decide, fun q => absurd q (by decide), fun _ => ⟨_, _, _, _, _, _, _, _, x1, _, _, _, _, x3.1, ?_⟩⟩) (fun hb => ⟨0, rfl, by decide, fun _ => hp0 (fun t y _ hy _ hb2 => hb y hy hb2), fun q => absurd rfl q⟩)⟩) (fun ha => ⟨0, rfl, by decide, fun _ => hp0 (fun t y ht _ ha2 _ => ha t ht ha2), fun q => absurd rfl q⟩)))
  subst ha; subst hb
  have := hp1 t y ht hy rfl rfl
  have e : gr (t * 12 + y) = agr mk R (t * 12 + y) := hG _ (by omega)
  rw [← e] at this
  exact c_stateOf x3 ht hy ⟨_, rfl, this⟩
theorem c_missing {S n len lm ft : Nat} {mk : Nat → Option Nat} {kd tx A Bs : Nat → Nat} {R : Rl} {wk ev : Tr} {w : Nat → Int} {k : Int32} (hI : ssI n mk kd tx len R lm ft A Bs wk ev w) (hX : Ss h S n mk kd tx len R lm ft A Bs wk ev w) (hp1 : ∀ i, i < 120 → gp (agr mk R) i = true → nI (cnt (gp (agr mk R)) i) = k → post (some (.int (nI (16 * (i / 12) + i % 12)))) h nx) (hp0 : (∀ i, i < 120 → gp (agr mk R) i = true → ¬ nI (cnt (gp (agr mk R)) i) = k) → post (some (.int (-1))) h nx) : Ct g M_X9_missing [.ref S, .int k] h nx post := by
  obtain ⟨old, gr, C, T, G, P, B, kn, hG, hX⟩ := hX
  obtain ⟨ws, we, nw, nxt, hd, dr, D, so, ch, cu, wy, wg, p, W, e, ku, kl, vu, vl, ⟨x1, x2, x3, x4, x5, x6, x7⟩, ⟨y1, y2, y3, y4, y5, y6⟩⟩ := id hX
  obtain ⟨i1, i2, i3, i4, i5, i6, i7, i8, i9, i10, i11⟩ := id hI
  have e : ∀ i, i < 120 → gr i = agr mk R i := hG
  have eb : ∀ t, t < 10 → ∀ y, y ≤ 12 → bef gr t y = bef (agr mk R) t y := by
    intro t ht y
    induction y with
    | zero => intro _; rfl
    | succ y ih =>
      intro hy
      show (bef gr t y || (gr (t * 12 + y)).isSome) = (bef (agr mk R) t y || (agr mk R (t * 12 + y)).isSome)
      rw [ih (by omega), e _ (by omega)]
  have el : ∀ t, t < 10 → ∀ y, y ≤ 12 → lgr gr t y = lgr (agr mk R) t y := by
    intro t ht y
    induction y with
    | zero => intro _; rfl
    | succ y ih =>
      intro hy
      show (if (gr (t * 12 + y)).isSome then y + 1 else lgr gr t y) = (if (agr mk R (t * 12 + y)).isSome then y + 1 else lgr (agr mk R) t y)
      rw [ih (by omega), e _ (by omega)]
  have eg : ∀ i, i < 120 → gp gr i = gp (agr mk R) i := by
    intro i hi
    unfold gp
    rw [e i hi, eb (i / 12) (by omega) (i % 12) (by omega), el (i / 12) (by omega) 12 (by omega)]
  have ec : ∀ i, i ≤ 120 → cnt (gp gr) i = cnt (gp (agr mk R)) i := by
    intro i
    induction i with
    | zero => intro _; rfl
    | succ i ih => intro hi; rw [cnt_s, cnt_s, ih (by omega), eg i (by omega)]
  have hgr := gr_lt i2 i5 hG
  refine Ct.of (by decide +kernel) (Nat.le_of_ble_eq_true rfl) (v_X9_missing_0 ⟨_, _, _, _, _, _, _, _, x1, _, _, _, _, x3.1, c_gap x3 (fun i s hi hs => by have := hgr i s hi hs; omega) (fun i hi hg hk => ⟨_, rfl, hp1 i hi (by rw [← eg i hi]; exact hg) (by rw [← ec i (by omega)]; exact hk)⟩) (fun hno => ⟨_, rfl, hp0 (fun i hi hg hk => hno i hi (by rw [eg i hi]; exact hg) (by rw [ec i (by omega)]; exact hk))⟩)⟩)
theorem c_kind {S n len lm ft : Nat} {mk : Nat → Option Nat} {kd tx A Bs : Nat → Nat} {R : Rl} {wk ev : Tr} {w : Nat → Int} {a b : Int32} (hI : ssI n mk kd tx len R lm ft A Bs wk ev w) (hX : Ss h S n mk kd tx len R lm ft A Bs wk ev w) (hp1 : ∀ t k, t < 10 → k < 4 → a = nI t → b = nI k → ∀ h', Ss h' S n mk (va_up kd t k) tx len R lm ft A Bs wk ev w → Off S (491 + 24 * n) h h' → post (some (.int (nI 1))) h' nx) (hp0 : (∀ t k, t < 10 → k < 4 → a = nI t → ¬ b = nI k) → post (some (.int (nI 0))) h nx) : Ct g M_X9_kind [.ref S, .int a, .int b] h nx post := by
  obtain ⟨old, gr, C, T, G, P, B, kn, hG, hX⟩ := hX
  obtain ⟨ws, we, nw, nxt, hd, dr, D, so, ch, cu, wy, wg, p, W, e, ku, kl, vu, vl, ⟨x1, x2, x3, x4, x5, x6, x7⟩, ⟨y1, y2, y3, y4, y5, y6⟩⟩ := id hX
  obtain ⟨i1, i2, i3, i4, i5, i6, i7, i8, i9, i10, i11⟩ := id hI
  refine Ct.of (by decide +kernel) (Nat.le_of_ble_eq_true rfl) (v_X9_kind_0 (c_isThing (fun t ht ha => ⟨1, rfl, by decide, fun q => absurd q (by decide), fun _ => ?_⟩) (fun ha => ⟨0, rfl, by decide, fun _ => hp0 (fun t y ht _ ha2 _ => ha t ht ha2), fun q => absurd rfl q⟩)))
  have no : (∀ k, k < 4 → ¬ b = nI k) → post (some (.int (nI 0))) h nx := fun hb => hp0 (fun t k _ hk _ hb2 => hb k hk hb2)
  obtain ⟨r1, r2⟩ := rng (x := b) (N := 4) (A := post (some (.int (nI 0))) h nx) (B := ∃ k, k < 4 ∧ b = nI k) (by decide) (fun k hk hb => ⟨k, hk, hb⟩) no
  refine ⟨r1, fun q => ⟨fun q2 => ?_, fun q2 => (r2 q).1 (Int32.not_lt.mp q2)⟩⟩
  obtain ⟨k, hk, hb⟩ := (r2 q).2 (Int32.not_le.mpr q2)
  subst ha; subst hb
  refine ⟨_, _, _, _, _, _, _, _, x1, _, _, _, _, x3.1, c_setKind x3 ht (fun h1 hK1 hO1 => ⟨rfl, hp1 t k ht hk rfl rfl h1 ⟨old, gr, C, T, G, P, B, kn, hG, ?_⟩ (hO1.mono (by omega) (by omega))⟩)⟩
  have o1 : ∀ q, (q < S + 17 ∨ S + 22 ≤ q) → h1 q = h q := fun q a => hO1 q (by omega)
  exact ⟨ws, we, nw, nxt, hd, dr, D, so, ch, cu, wy, wg, p, W, e, ku, kl, vu, vl, ⟨(o1 S (by omega)).trans x1, x2.ofq (fun q a b => o1 q (by omega)), hK1, x4.ofq (fun q a b => o1 q (by omega)), x5.ofq (fun q a b => o1 q (by omega)), x6.ofq (fun q a b => o1 q (by omega)), x7.ofq (fun q a b => o1 q (by omega))⟩, ⟨y1, y2, y3, y4, y5, y6⟩⟩
theorem c_least {S n len lm ft : Nat} {mk : Nat → Option Nat} {kd tx A Bs : Nat → Nat} {R : Rl} {wk ev : Tr} {w : Nat → Int} {a : Int32} (hI : ssI n mk kd tx len R lm ft A Bs wk ev w) (hX : Ss h S n mk kd tx len R lm ft A Bs wk ev w) (hp1 : ∀ k, k ≤ 50 → a = nI k → ∀ h', Ss h' S n mk kd tx len R k ft A Bs wk ev w → Off S (491 + 24 * n) h h' → post (some (.int (nI 1))) h' nx) (hp0 : (∀ k, k ≤ 50 → ¬ a = nI k) → post (some (.int (nI 0))) h nx) : Ct g M_X9_least [.ref S, .int a] h nx post := by
  obtain ⟨old, gr, C, T, G, P, B, kn, hG, hX⟩ := hX
  obtain ⟨ws, we, nw, nxt, hd, dr, D, so, ch, cu, wy, wg, p, W, e, ku, kl, vu, vl, ⟨x1, x2, x3, x4, x5, x6, x7⟩, ⟨y1, y2, y3, y4, y5, y6⟩⟩ := id hX
  obtain ⟨i1, i2, i3, i4, i5, i6, i7, i8, i9, i10, i11⟩ := id hI
  obtain ⟨r1, r2⟩ := rng (x := a) (N := 51) (A := post (some (.int (nI 0))) h nx) (B := ∃ k, k < 51 ∧ a = nI k) (by decide) (fun k hk hb => ⟨k, hk, hb⟩) (fun ha => hp0 (fun k hk => ha k (by omega)))
  have e51 : ∀ x : Int32, ¬ x < 0 → (x ≤ nI 50 ↔ ¬ nI 51 ≤ x) := by
    intro x hx
    obtain ⟨j, hj, rfl⟩ := nI_of hx
    rw [nI_leI hj (by decide), nI_leI (by decide) hj]
    omega
  refine Ct.of (by decide +kernel) (Nat.le_of_ble_eq_true rfl) (v_X9_least_0 ⟨r1, fun q => ⟨fun q2 => ?_, fun q2 => (r2 q).1 (Decidable.byContradiction fun z => q2 ((e51 a q).mpr z))⟩⟩)
  obtain ⟨k, hk, ha⟩ := (r2 q).2 ((e51 a q).mp q2)
  subst ha
  refine ⟨_, _, _, _, _, _, _, _, x1, _, _, _, _, _, _, _, _, x4.1, c_setLeast x4 (fun h1 hM1 hO1 => ?_)⟩
  have o1 : ∀ q, (q < S + 22 ∨ S + 28 ≤ q) → h1 q = h q := fun q a => hO1 q (by omega)
  refine ⟨rfl, _, _, _, _, _, _, _, _, (o1 S (by omega)).trans x1, hp1 k (by omega) rfl _ ⟨1, gr, C, T, G, P, B, kn, hG, ?_⟩ ((hO1.mono (by omega) (by omega)).up (by omega) (by omega))⟩
  have o2 : ∀ q, ¬ q = S → (q < S + 22 ∨ S + 28 ≤ q) → xup h1 S (ssO S n 1) q = h q := fun q a b => (xup_n a).trans (o1 q b)
  exact ⟨ws, we, nw, nxt, hd, dr, D, so, ch, cu, wy, wg, p, W, e, ku, kl, vu, vl, ⟨xup_s _ _ _, x2.ofq (fun q a b => o2 q (by omega) (by omega)), x3.ofq (fun q a b => o2 q (by omega) (by omega)), hM1.ofq (fun q a b => xup_n (by omega)), x5.ofq (fun q a b => o2 q (by omega) (by omega)), x6.ofq (fun q a b => o2 q (by omega) (by omega)), x7.ofq (fun q a b => o2 q (by omega) (by omega))⟩, ⟨by decide, fun z => absurd z (by decide), y3, y4, y5, y6⟩⟩
theorem c_joined {S n len lm ft : Nat} {mk : Nat → Option Nat} {kd tx A Bs : Nat → Nat} {R : Rl} {wk ev : Tr} {w : Nat → Int} {a b : Int32} (hI : ssI n mk kd tx len R lm ft A Bs wk ev w) (hX : Ss h S n mk kd tx len R lm ft A Bs wk ev w) (hp1 : ∀ s t, s < n → t < n → a = nI s → b = nI t → ∀ h', Ss h' S n mk kd tx len R lm ft A Bs wk ev w → Off S (491 + 24 * n) h h' → post (some (.int (nI (if aG (agr mk R) lm n s = aG (agr mk R) lm n t then 1 else 0)))) h' nx) (hp0 : (∀ s t, s < n → t < n → a = nI s → ¬ b = nI t) → post (some (.int (-1))) h nx) : Ct g M_X9_joined [.ref S, .int a, .int b] h nx post := by
  obtain ⟨old, gr, C, T, G, P, B, kn, hG, hX⟩ := hX
  obtain ⟨ws, we, nw, nxt, hd, dr, D, so, ch, cu, wy, wg, p, W, e, ku, kl, vu, vl, ⟨x1, x2, x3, x4, x5, x6, x7⟩, ⟨y1, y2, y3, y4, y5, y6⟩⟩ := id hX
  obtain ⟨i1, i2, i3, i4, i5, i6, i7, i8, i9, i10, i11⟩ := id hI
  refine Ct.of (by decide +kernel) (Nat.le_of_ble_eq_true rfl) (v_X9_joined_0 ⟨_, _, _, _, _, _, _, _, x1, c_isState x1 i1.2 (fun s hs ha => ⟨1, rfl, by decide, fun q => absurd q (by decide), fun _ => ⟨_, _, _, _, _, _, _, _, x1, c_isState x1 i1.2 (fun t ht hb => ⟨1, rfl, by decide, fun _ => ⟨_, _, _, _, _, _, _, _, x1, c_renewMoves hI hG hX (fun h1 C1 T1 G1 P1 B1 kn1 hX1 hO1 => ?_)⟩, fun q => absurd q (by decide)⟩) (fun hb => ⟨0, rfl, by decide, fun q => absurd rfl q, fun _ => hp0 (fun s t _ ht _ hb2 => hb t ht hb2)⟩)⟩⟩) (fun ha => ⟨0, rfl, by decide, fun _ => hp0 (fun s t hs _ ha2 _ => ha s hs ha2), fun q => absurd rfl q⟩)⟩)
  have hS1 : Ss h1 S n mk kd tx len R lm ft A Bs wk ev w := ⟨0, gr, C1, T1, G1, P1, B1, kn1, hG, hX1⟩
  obtain ⟨ws, we, nw, nxt, hd, dr, D, so, ch, cu, wy, wg, p, W, e, ku, kl, vu, vl, ⟨x1, x2, x3, x4, x5, x6, x7⟩, ⟨y1, y2, y3, y4, y5, y6⟩⟩ := id hX1
  obtain ⟨c1, c2, c3, c4, c5⟩ := y2 rfl
  subst ha; subst hb
  have ee : ∀ i, i < 120 → gr i = agr mk R i := hG
  have g1 : ∀ k, k < n → aG (agr mk R) lm n k = G1 k := fun k hk => by rw [c3 k hk, aG_congr ee]
  have hpp := hp1 s t hs ht rfl rfl h1 hS1 hO1
  rw [g1 s hs, g1 t ht] at hpp
  have b1 : ∀ k, k < n → G1 k < 2 ^ 31 := fun k hk => by
    rw [c3 k hk]
    have := gF_b (T := aT gr) (lm := lm) (n := n) (s := k) (by omega)
    unfold aG
    omega
  refine ⟨rfl, _, _, _, _, _, _, _, _, x1, _, _, _, _, _, _, _, _, x4.1, c_inOneGroup x4 (by omega) (by omega) ⟨b1 s hs, b1 t ht⟩ ⟨_, rfl, by split <;> decide, fun q => ?_, fun q => ?_⟩⟩
  · by_cases z : G1 s = G1 t
    · rw [if_pos z] at q; exact absurd q (by decide)
    · rw [if_neg z] at hpp; exact hpp
  · by_cases z : G1 s = G1 t
    · rw [if_pos z] at hpp; exact hpp
    · rw [if_neg z] at q; exact absurd rfl q
theorem c_sums {S n len lm ft : Nat} {mk : Nat → Option Nat} {kd tx A Bs : Nat → Nat} {R : Rl} {wk ev : Tr} {w : Nat → Int} {a : Int32} (hI : ssI n mk kd tx len R lm ft A Bs wk ev w) (hX : Ss h S n mk kd tx len R lm ft A Bs wk ev w) (hp1 : ∀ y, y < 12 → a = nI y → (∀ z, z ≤ y → ¬ lng n (fa n mk R lm A Bs wk ev z).1 (fa n mk R lm A Bs wk ev z).2) → ∀ h', Ss h' S n mk kd tx len R lm ft A Bs wk ev w → Off S (491 + 24 * n) h h' → post (some (.int (nI (if sm (fa n mk R lm A Bs wk ev y).1 n = (fa n mk R lm A Bs wk ev y).2 then 1 else 0)))) h' nx) (hp2 : ∀ y, y < 12 → a = nI y → (∃ z, z ≤ y ∧ lng n (fa n mk R lm A Bs wk ev z).1 (fa n mk R lm A Bs wk ev z).2) → ∀ h', Ss h' S n mk kd tx len R lm ft A Bs wk ev w → Off S (491 + 24 * n) h h' → post (some (.int (nI 0))) h' nx) (hp0 : (∀ t, t < 12 → ¬ a = nI t) → post (some (.int (nI 0))) h nx) : Ct g M_X9_sums [.ref S, .int a] h nx post := by
  obtain ⟨old, gr, C, T, G, P, B, kn, hG, hX⟩ := hX
  obtain ⟨ws, we, nw, nxt, hd, dr, D, so, ch, cu, wy, wg, p, W, e, ku, kl, vu, vl, ⟨x1, x2, x3, x4, x5, x6, x7⟩, ⟨y1, y2, y3, y4, y5, y6⟩⟩ := id hX
  obtain ⟨i1, i2, i3, i4, i5, i6, i7, i8, i9, i10, i11⟩ := id hI
  refine Ct.of (by decide +kernel) (Nat.le_of_ble_eq_true rfl) (v_X9_sums_0 ⟨_, _, _, _, _, _, _, _, x1, c_foretold hI hG hX (fun ha => ⟨0, rfl, by decide, fun _ => hp0 ha, fun q => absurd rfl q⟩) (fun y hy ha h1 C1 T1 G1 P1 B1 kn1 hX1 hk1 hO1 => ?_)⟩)
  have hS1 : Ss h1 S n mk kd tx len R lm ft A Bs wk ev w := ⟨0, gr, C1, T1, G1, P1, B1, kn1, hG, hX1⟩
  obtain ⟨ws, we, nw, nxt, hd, dr, D, so, ch, cu, wy, wg, p, W, e, ku, kl, vu, vl, ⟨x1, x2, x3, x4, x5, x6, x7⟩, ⟨y1, y2, y3, y4, y5, y6⟩⟩ := id hX1
  have hc := y2 rfl
  subst ha
  rcases hk1 with hlt | ⟨hge, hl⟩
  · rw [if_pos hlt]
    have k12 := y5.1
    have hrow : ∀ z, z < kn1 → rowOK n p W e ku kl z (fa n mk R lm A Bs wk ev z).1 (fa n mk R lm A Bs wk ev z).2 := by
      intro z hz
      obtain ⟨e1, e2⟩ := fa_of hI hG hc z (by omega)
      have := rowOK_congr e2 (y5.2.1 z hz)
      rw [e1] at this
      exact this
    have hno : ∀ z, z ≤ y → ¬ lng n (fa n mk R lm A Bs wk ev z).1 (fa n mk R lm A Bs wk ev z).2 := fun z hz => lng_no (fa_ok hI z (by omega)).1 (hrow z (by omega))
    refine ⟨1, rfl, by decide, fun q => absurd q (by decide), fun _ => ⟨_, _, _, _, _, _, _, _, x1, _, _, _, _, _, _, _, _, _, _, _, _, _, _, _, _, _, _, x7.1, c_isOne x7 hy (hrow y hlt) (fa_ok hI y hy) (fun h2 hF2 hO2 => ?_)⟩⟩
    have o1 : ∀ q, (q < S + 40 ∨ S + 491 + 24 * n ≤ q) → h2 q = h1 q := fun q a => hO2 q (by omega)
    have hS2 : Ss h2 S n mk kd tx len R lm ft A Bs wk ev w := ⟨0, gr, C1, T1, G1, P1, B1, kn1, hG, ⟨ws, we, nw, nxt, hd, dr, D, so, ch, cu, wy, wg, p, W, e, ku, kl, vu, vl, ⟨(o1 S (by omega)).trans x1, x2.ofq (fun q a b => o1 q (by omega)), x3.ofq (fun q a b => o1 q (by omega)), x4.ofq (fun q a b => o1 q (by omega)), x5.ofq (fun q a b => o1 q (by omega)), x6.ofq (fun q a b => o1 q (by omega)), hF2⟩, ⟨y1, y2, y3, y4, y5, y6⟩⟩⟩
    have hpp := hp1 y hy rfl hno h2 hS2 (hO1.tr (hO2.mono (by omega) (by omega)))
    refine ⟨_, rfl, by split <;> decide, fun q => ?_, fun q => ?_⟩
    · by_cases z : sm (fa n mk R lm A Bs wk ev y).1 n = (fa n mk R lm A Bs wk ev y).2
      · rw [if_pos z] at q; exact absurd q (by decide)
      · rw [if_neg z] at hpp; exact hpp
    · by_cases z : sm (fa n mk R lm A Bs wk ev y).1 n = (fa n mk R lm A Bs wk ev y).2
      · rw [if_pos z] at hpp; exact hpp
      · rw [if_neg z] at q; exact absurd rfl q
  · rw [if_neg (by omega)]
    obtain ⟨e1, e2⟩ := fa_of hI hG hc kn1 (by omega)
    have hl2 := lng_congr e2 hl
    rw [e1] at hl2
    exact ⟨0, rfl, by decide, fun _ => hp2 y hy rfl ⟨kn1, hge, hl2⟩ h1 hS1 hO1, fun q => absurd rfl q⟩
end SS3
