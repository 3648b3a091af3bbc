/-! StateShares: marks, counts, shares, draws, two persons -/
def glR (P B : Nat → Nat) (n f : Nat) (d : Int64) : Nat → Nat → Nat
  | 0, _ => n - 1
  | k + 1, i => if glc P B f d i then glR P B n f d k (i + 1) else i
theorem glR_s {P B : Nat → Nat} {n f k i : Nat} {d : Int64} : glR P B n f d (k + 1) i = if glc P B f d i then glR P B n f d k (i + 1) else i := rfl
def glF (P B : Nat → Nat) (n f : Nat) (d : Int64) : Nat := glR P B n f d n 0
theorem glF_eq {P B : Nat → Nat} {n f r : Nat} {d : Int64} (hr : r < n) (h1 : ∀ t, t < r → glc P B f d t) (h2 : ¬ glc P B f d r ∨ r = n - 1) : glF P B n f d = r := by
  have main : ∀ k i, i + k = n → i ≤ r → glR P B n f d k i = r := by
    intro k
    induction k with
    | zero => intro i hi hr2; omega
    | succ k ih =>
      intro i hi hr2
      rw [glR_s]
      by_cases z : i = r
      · subst z
        by_cases q : glc P B f d i
        · rw [if_pos q]
          rcases h2 with w | w
          · exact absurd q w
          · have hk : k = 0 := by omega
            subst hk
            exact w.symm
        · rw [if_neg q]
      · rw [if_pos (h1 i (by omega))]
        exact ih (i + 1) (by omega) (by omega)
  exact main n 0 (by omega) (Nat.zero_le _)
theorem glF_lt {P B : Nat → Nat} {n f : Nat} {d : Int64} (hn : 0 < n) : glF P B n f d < n := by
  have main : ∀ k i, i + k = n → glR P B n f d k i < n := by
    intro k
    induction k with
    | zero => intro i hi; show n - 1 < n; omega
    | succ k ih =>
      intro i hi
      rw [glR_s]
      split
      · exact ih (i + 1) (by omega)
      · omega
  exact main n 0 (by omega)
theorem glF_congr {P B P' B' : Nat → Nat} {n f : Nat} {d : Int64} (hP : ∀ t, t < n → P (f * 6 + t) = P' (f * 6 + t)) (hB : B f = B' f) : glF P B n f d = glF P' B' n f d := by
  have main : ∀ k i, i + k = n → glR P B n f d k i = glR P' B' n f d k i := by
    intro k
    induction k with
    | zero => intro i hi; rfl
    | succ k ih =>
      intro i hi
      have e : glc P B f d i ↔ glc P' B' f d i := by
        unfold glc
        rw [hB, sm_congr (p := fun t => P (f * 6 + t)) (q := fun t => P' (f * 6 + t)) (n := i + 1) (fun t ht => hP t (by omega))]
      rw [glR_s, glR_s, ih (i + 1) (by omega)]
      by_cases q : glc P B f d i
      · rw [if_pos q, if_pos (e.mp q)]
      · rw [if_neg q, if_neg (fun z => q (e.mpr z))]
  exact main n 0 (by omega)
def drw (x0 : Int64) (x2 x3 : Int32) : Int64 := ((((((((x0 + ((lN 1000003) * (x2.toInt64))) + ((lN 7919) * (x3.toInt64))) * (lN 6364136223846793005)) + (lN 1442695040888963407)) * (lN 6364136223846793005)) + (lN 1442695040888963407)).toUInt64 >>> ((nI 33).toInt64.toUInt64 &&& Int64.toUInt64 63)).toInt64)
def drS (P B : Nat → Nat) (n s0 t : Nat) (seed : Int64) : Nat → Nat
  | 0 => s0
  | i + 1 => glF P B n (drS P B n s0 t seed i) (drw seed (nI t) (nI i))
theorem fstS_lt {n : Nat} {gr : Nat → Option Nat} {kd : Nat → Nat} {t : Nat} (hn : 0 < n) (ht : t < 10) (hg : ∀ i s, i < 120 → gr i = some s → s < n) : fstS gr kd t < n := by
  have main : ∀ d i, i + d = 10 → fst0 gr kd t d i < n := by
    intro d
    induction d with
    | zero => intro i _; exact hn
    | succ d ih =>
      intro i hi
      unfold fst0
      split
      · split
        · rename_i s hs
          exact hg _ s (by omega) hs
        · exact ih (i + 1) (by omega)
      · exact ih (i + 1) (by omega)
  unfold fstS
  split
  · rename_i s hs
    exact hg _ s (by omega) hs
  · exact main 10 0 rfl
theorem fstS_congr {gr gr' : Nat → Option Nat} {kd : Nat → Nat} {t : Nat} (ht : t < 10) (h : ∀ i, i < 120 → gr i = gr' i) : fstS gr kd t = fstS gr' kd t := by
  have main : ∀ d i, i + d = 10 → fst0 gr kd t d i = fst0 gr' kd t d i := by
    intro d
    induction d with
    | zero => intro i _; rfl
    | succ d ih =>
      intro i hi
      unfold fst0
      rw [h _ (by omega), ih (i + 1) (by omega)]
  unfold fstS
  rw [h _ (by omega), main 10 0 rfl]
section SS6
variable {g : xG} {post : xPost} {h : xHp} {nx : Nat}
theorem c_needOK {S n old s : Nat} (hO : h S = some (ssO S n old)) (hn : n ≤ 6) (hs : s < n) (hp : post none h nx) : Ct g M_X9_needState [.ref S, .int (nI s)] h nx post :=
  Ct.of (by decide +kernel) (Nat.le_of_ble_eq_true rfl) (v_X9_needState_0 ⟨_, _, _, _, _, _, _, _, hO, c_isState hO hn (fun t ht e => ⟨1, rfl, by decide, fun _ => hp, fun q => absurd q (by decide)⟩) (fun z => absurd rfl (z s hs))⟩)
theorem c_count {S n len lm ft : Nat} {mk : Nat → Option Nat} {kd tx A Bs : Nat → Nat} {R : Rl} {wk ev : Tr} {w : Nat → Int} {s t : Nat} (hI : ssI n mk kd tx len R lm ft A Bs wk ev w) (hX : Ss h S n mk kd tx len R lm ft A Bs wk ev w) (hs : s < n) (ht : t < n) (hp : ∀ h', Ss h' S n mk kd tx len R lm ft A Bs wk ev w → Off S (491 + 24 * n) h h' → post (some (.int (nI (aC (agr mk R) (s * 6 + t))))) h' nx) : Ct g M_X9_count [.ref S, .int (nI s), .int (nI t)] h nx post := by
  obtain ⟨old, gr, C, T, G, P, B, kn, hG, hX⟩ := hX
  obtain ⟨ws, we, nw, nxt, hd, dr, D, so, ch, cu, wy, wg, p, W, e, ku, kl, vu, vl, ⟨x1, x2, x3, x4, x5, x6, x7⟩, ⟨y1, y2, y3, y4, y5, y6⟩⟩ := id hX
  obtain ⟨i1, i2, i3, i4, i5, i6, i7, i8, i9, i10, i11⟩ := id hI
  refine Ct.of (by decide +kernel) (Nat.le_of_ble_eq_true rfl) (v_X9_count_0 ⟨_, _, _, _, _, _, _, _, x1, c_needOK x1 i1.2 hs ⟨rfl, _, _, _, _, _, _, _, _, x1, c_needOK x1 i1.2 ht ⟨rfl, _, _, _, _, _, _, _, _, x1, c_renewMoves hI hG hX (fun h1 C1 T1 G1 P1 B1 kn1 hX1 hO1 => ?_)⟩⟩⟩)
  have hS1 : Ss h1 S n mk kd tx len R lm ft A Bs wk ev w := ⟨0, gr, C1, T1, G1, P1, B1, kn1, hG, hX1⟩
  obtain ⟨ws, we, nw, nxt, hd, dr, D, so, ch, cu, wy, wg, p, W, e, ku, kl, vu, vl, ⟨x1, x2, x3, x4, x5, x6, x7⟩, ⟨y1, y2, y3, y4, y5, y6⟩⟩ := id hX1
  obtain ⟨c1, c2, c3, c4, c5⟩ := y2 rfl
  have ee : ∀ i, i < 120 → gr i = agr mk R i := hG
  have hpp := hp h1 hS1 hO1
  have g1 : aC (agr mk R) (s * 6 + t) = C1 (s * 6 + t) := by rw [c1 _ (by omega), aC_congr ee]
  rw [g1] at hpp
  exact ⟨rfl, _, _, _, _, _, _, _, _, x1, _, _, _, _, _, _, _, _, x4.1, c_number x4 (by omega) ⟨_, rfl, hpp⟩⟩
theorem c_share {S n len lm ft : Nat} {mk : Nat → Option Nat} {kd tx A Bs : Nat → Nat} {R : Rl} {wk ev : Tr} {w : Nat → Int} {s t : Nat} {x : Int32} (hI : ssI n mk kd tx len R lm ft A Bs wk ev w) (hX : Ss h S n mk kd tx len R lm ft A Bs wk ev w) (hs : s < n) (ht : t < n) (hp : ∀ h', Ss h' S n mk kd tx len R lm ft A Bs wk ev w → Off S (491 + 24 * n) h h' → post (some (.long (lN (smp (aP (agr mk R) lm n (s * 6 + t)) (aB (agr mk R) lm n s) x)))) h' nx) : Ct g M_X9_share [.ref S, .int (nI s), .int (nI t), .int x] h nx post := by
  obtain ⟨old, gr, C, T, G, P, B, kn, hG, hX⟩ := hX
  obtain ⟨ws, we, nw, nxt, hd, dr, D, so, ch, cu, wy, wg, p, W, e, ku, kl, vu, vl, ⟨x1, x2, x3, x4, x5, x6, x7⟩, ⟨y1, y2, y3, y4, y5, y6⟩⟩ := id hX
  obtain ⟨i1, i2, i3, i4, i5, i6, i7, i8, i9, i10, i11⟩ := id hI
  refine Ct.of (by decide +kernel) (Nat.le_of_ble_eq_true rfl) (v_X9_share_0 ⟨_, _, _, _, _, _, _, _, x1, c_needOK x1 i1.2 hs ⟨rfl, _, _, _, _, _, _, _, _, x1, c_needOK x1 i1.2 ht ⟨rfl, _, _, _, _, _, _, _, _, x1, c_renewMoves hI hG hX (fun h1 C1 T1 G1 P1 B1 kn1 hX1 hO1 => ?_)⟩⟩⟩)
  have hS1 : Ss h1 S n mk kd tx len R lm ft A Bs wk ev w := ⟨0, gr, C1, T1, G1, P1, B1, kn1, hG, hX1⟩
  obtain ⟨ws, we, nw, nxt, hd, dr, D, so, ch, cu, wy, wg, p, W, e, ku, kl, vu, vl, ⟨x1, x2, x3, x4, x5, x6, x7⟩, ⟨y1, y2, y3, y4, y5, y6⟩⟩ := id hX1
  have hc := y2 rfl
  obtain ⟨c1, c2, c3, c4, c5⟩ := id hc
  have hm := cur_mov i1.2 hc
  have ee : ∀ i, i < 120 → gr i = agr mk R i := hG
  have hpp := hp h1 hS1 hO1
  have g1 : aP (agr mk R) lm n (s * 6 + t) = P1 (s * 6 + t) := by rw [c4 s t hs ht, aP_congr ee]
  have g2 : aB (agr mk R) lm n s = B1 s := by rw [c5 s hs, aB_congr ee]
  rw [g1, g2] at hpp
  obtain ⟨m1, m2, m3⟩ := hm.1 s hs
  have m4 := m3 t ht
  refine ⟨rfl, _, _, _, _, _, _, _, _, x1, _, _, _, _, _, _, _, _, x4.1, c_top x4 (by omega) ⟨_, rfl, by omega, _, _, _, _, _, _, _, _, x1, _, _, _, _, _, _, _, _, x4.1, c_bottom x4 (by omega) ⟨_, rfl, by omega, c_small (by omega) ⟨by omega, by omega⟩ ⟨_, rfl, hpp⟩⟩⟩⟩
theorem c_at {S n len lm ft : Nat} {mk : Nat → Option Nat} {kd tx A Bs : Nat → Nat} {R : Rl} {wk ev : Tr} {w : Nat → Int} {s : Nat} {a x : Int32} (hI : ssI n mk kd tx len R lm ft A Bs wk ev w) (hX : Ss h S n mk kd tx len R lm ft A Bs wk ev w) (hs : s < n) (hp1 : ∀ y, y < 12 → a = nI y → (∀ z, z ≤ y → ¬ lng n (fa n mk R lm A Bs wk ev z).1 (fa n mk R lm A Bs wk ev z).2) → ∀ h' u l, Ss h' S n mk kd tx len R lm ft A Bs wk ev w → lowT ((fa n mk R lm A Bs wk ev y).1 s) (fa n mk R lm A Bs wk ev y).2 u l → Off S (491 + 24 * n) h h' → post (some (.long (lN (dgt u l x)))) h' nx) (hp2 : ∀ y, y < 12 → a = nI y → (∃ z, z ≤ y ∧ lng n (fa n mk R lm A Bs wk ev z).1 (fa n mk R lm A Bs wk ev z).2) → ∀ h', Ss h' S n mk kd tx len R lm ft A Bs wk ev w → Off S (491 + 24 * n) h h' → post (some (.long (-1))) h' nx) (hp0 : (∀ t, t < 12 → ¬ a = nI t) → post (some (.long (-1))) h nx) : Ct g M_X9_at [.ref S, .int (nI s), .int a, .int x] h nx post := by
  obtain ⟨old, gr, C, T, G, P, B, kn, hG, hX⟩ := hX
  obtain ⟨ws, we, nw, nxt, hd, dr, D, so, ch, cu, wy, wg, p, W, e, ku, kl, vu, vl, ⟨x1, x2, x3, x4, x5, x6, x7⟩, ⟨y1, y2, y3, y4, y5, y6⟩⟩ := id hX
  obtain ⟨i1, i2, i3, i4, i5, i6, i7, i8, i9, i10, i11⟩ := id hI
  refine Ct.of (by decide +kernel) (Nat.le_of_ble_eq_true rfl) (v_X9_at_0 ⟨_, _, _, _, _, _, _, _, x1, c_needOK x1 i1.2 hs ⟨rfl, _, _, _, _, _, _, _, _, x1, c_foretold hI hG hX (fun ha => ⟨0, rfl, by decide, fun _ => hp0 ha, fun q => absurd rfl q⟩) (fun y hy ha h1 C1 T1 G1 P1 B1 kn1 hX1 hk1 hO1 => ?_)⟩⟩)
  have hS1 : Ss h1 S n mk kd tx len R lm ft A Bs wk ev w := ⟨0, gr, C1, T1, G1, P1, B1, kn1, hG, hX1⟩
  obtain ⟨ws, we, nw, nxt, hd, dr, D, so, ch, cu, wy, wg, p, W, e, ku, kl, vu, vl, ⟨x1, x2, x3, x4, x5, x6, x7⟩, ⟨y1, y2, y3, y4, y5, y6⟩⟩ := id hX1
  have hc := y2 rfl
  subst ha
  rcases hk1 with hlt | ⟨hge, hl⟩
  · rw [if_pos hlt]
    have k12 := y5.1
    have hrow : ∀ z, z < kn1 → rowOK n p W e ku kl z (fa n mk R lm A Bs wk ev z).1 (fa n mk R lm A Bs wk ev z).2 := by
      intro z hz
      obtain ⟨e1, e2⟩ := fa_of hI hG hc z (by omega)
      have := rowOK_congr e2 (y5.2.1 z hz)
      rw [e1] at this
      exact this
    have hno : ∀ z, z ≤ y → ¬ lng n (fa n mk R lm A Bs wk ev z).1 (fa n mk R lm A Bs wk ev z).2 := fun z hz => lng_no (fa_ok hI z (by omega)).1 (hrow z (by omega))
    exact ⟨1, rfl, by decide, fun q => absurd q (by decide), fun _ => ⟨_, _, _, _, _, _, _, _, x1, _, _, _, _, _, _, _, _, _, _, _, _, _, _, _, _, _, _, x7.1, c_stateDigits x7 hy (by omega) ⟨_, rfl, hp1 y hy rfl hno h1 _ _ hS1 ((hrow y hlt).2.2.2 s hs).1 hO1⟩⟩⟩
  · rw [if_neg (by omega)]
    obtain ⟨e1, e2⟩ := fa_of hI hG hc kn1 (by omega)
    have hl2 := lng_congr e2 hl
    rw [e1] at hl2
    exact ⟨0, rfl, by decide, fun _ => hp2 y hy rfl ⟨kn1, hge, hl2⟩ h1 hS1 hO1, fun q => absurd rfl q⟩
theorem c_mark {S n len lm ft : Nat} {mk : Nat → Option Nat} {kd tx A Bs : Nat → Nat} {R : Rl} {wk ev : Tr} {w : Nat → Int} {a b c d : Int32} (hI : ssI n mk kd tx len R lm ft A Bs wk ev w) (hX : Ss h S n mk kd tx len R lm ft A Bs wk ev w) (hd0 : ∀ t y i, t < 10 → y < 12 → i < 4 → a = nI t → b = nI y → c = nI i → ∃ s, s < n ∧ d = nI s) (hp1 : ∀ t y i s, t < 10 → y < 12 → i < 4 → s < n → a = nI t → b = nI y → c = nI i → d = nI s → ∀ h', Ss h' S n (va_up mk ((t * 12 + y) * 4 + i) (some s)) kd tx len R lm ft A Bs wk ev w → Off S (491 + 24 * n) h h' → post (some (.int (nI 1))) h' nx) (hp0 : (∀ t y i, t < 10 → y < 12 → i < 4 → a = nI t → b = nI y → ¬ c = nI i) → post (some (.int (nI 0))) h nx) : Ct g M_X9_mark [.ref S, .int a, .int b, .int c, .int d] h nx post := by
  obtain ⟨old, gr, C, T, G, P, B, kn, hG, hX⟩ := hX
  obtain ⟨ws, we, nw, nxt, hd, dr, D, so, ch, cu, wy, wg, p, W, e, ku, kl, vu, vl, ⟨x1, x2, x3, x4, x5, x6, x7⟩, ⟨y1, y2, y3, y4, y5, y6⟩⟩ := id hX
  obtain ⟨i1, i2, i3, i4, i5, i6, i7, i8, i9, i10, i11⟩ := id hI
  refine Ct.of (by decide +kernel) (Nat.le_of_ble_eq_true rfl) (v_X9_mark_0 (c_isThing (fun t ht ha => ⟨1, rfl, by decide, fun q => absurd q (by decide), fun _ => c_isYear (fun y hy hb => ⟨1, rfl, by decide, fun q => absurd q (by decide), fun _ => c_isPerson (fun i hi hc => ⟨1, rfl, by decide, fun _ => ?_, fun q => absurd q (by decide)⟩) (fun hc => ⟨0, rfl, by decide, fun q => absurd rfl q, fun _ => hp0 (fun _ _ i _ _ hi _ _ hc2 => hc i hi hc2)⟩)⟩) (fun hb => ⟨0, rfl, by decide, fun _ => hp0 (fun _ y _ _ hy _ _ hb2 _ => hb y hy hb2), fun q => absurd rfl q⟩)⟩) (fun ha => ⟨0, rfl, by decide, fun _ => hp0 (fun t _ _ ht _ _ ha2 _ _ => ha t ht ha2), fun q => absurd rfl q⟩)))
  obtain ⟨s, hs, hds⟩ := hd0 t y i ht hy hi ha hb hc
  subst ha; subst hb; subst hc; subst hds
  refine ⟨_, _, _, _, _, _, _, _, x1, c_needOK x1 i1.2 hs ⟨rfl, _, _, _, _, _, _, _, _, x1, _, _, _, _, x3.1, c_see x3 ht hy hi (fun h1 hK1 hO1 => ?_)⟩⟩
  have o1 : ∀ q, (q < S + 17 ∨ S + 22 ≤ q) → h1 q = h q := fun q a => hO1 q (by omega)
  have hU1 := x2.ofq (h' := h1) (fun q a b => o1 q (by omega))
  have hmk1 : ∀ j s', j < 480 → va_up mk ((t * 12 + y) * 4 + i) (some s) j = some s' → s' < n := by
    intro j s' hj hs'
    by_cases z : j = (t * 12 + y) * 4 + i
    · subst z
      rw [up_s] at hs'
      have := Option.some.inj hs'
      omega
    · rw [up_n z] at hs'
      exact i2 j s' hj hs'
  refine ⟨rfl, _, _, _, _, _, _, _, _, (o1 S (by omega)).trans x1, _, _, _, _, hK1.1, c_judgeOne hK1 hU1 i5 (by omega) ht hy i1.2 hmk1 (fun h2 so2 hK2 hO2 => ?_)⟩
  have o2 : ∀ q, (q < S + 17 ∨ S + 22 ≤ q) → h2 q = h q := fun q a => (hO2 q (by omega)).trans (o1 q a)
  have o3 : ∀ q, ¬ q = S → (q < S + 17 ∨ S + 22 ≤ q) → xup h2 S (ssO S n 1) q = h q := fun q a b => (xup_n a).trans (o2 q b)
  refine ⟨rfl, _, _, _, _, _, _, _, _, (o2 S (by omega)).trans x1, hp1 t y i s ht hy hi hs rfl rfl rfl rfl _ ⟨1, _, C, T, G, P, B, kn, fun j hj => ?_, ⟨ws, we, nw, nxt, hd, dr, D, so2, ch, cu, wy, wg, p, W, e, ku, kl, vu, vl, ⟨xup_s _ _ _, x2.ofq (fun q a b => o3 q (by omega) (by omega)), hK2.ofq (fun q a b => xup_n (by omega)), x4.ofq (fun q a b => o3 q (by omega) (by omega)), x5.ofq (fun q a b => o3 q (by omega) (by omega)), x6.ofq (fun q a b => o3 q (by omega) (by omega)), x7.ofq (fun q a b => o3 q (by omega) (by omega))⟩, ⟨by decide, fun z => absurd z (by decide), y3, y4, y5, y6⟩⟩⟩ (((hO1.mono (by omega) (by omega)).tr (hO2.mono (by omega) (by omega))).up (by omega) (by omega))⟩
  by_cases z : j = t * 12 + y
  · subst z; exact up_s
  · rw [up_n z, hG j hj]
    exact grd_congr (fun p hp => (up_n (by omega)).symm)
theorem c_draw {x0 : Int64} {a b : Int32} (hp : post (some (.long (drw x0 a b))) h nx) : Ct g M_X9_draw [.long x0, .int a, .int b] h nx post := Ct.of (by decide +kernel) (Nat.le_of_ble_eq_true rfl) (v_X9_draw_0 hp)
theorem c_drawn {S n len lm ft : Nat} {mk : Nat → Option Nat} {kd tx A Bs : Nat → Nat} {R : Rl} {wk ev : Tr} {w : Nat → Int} {a b : Int32} {seed : Int64} (hI : ssI n mk kd tx len R lm ft A Bs wk ev w) (hX : Ss h S n mk kd tx len R lm ft A Bs wk ev w) (hp1 : ∀ t y, t < 10 → y < 12 → a = nI t → b = nI y → ∀ h', Ss h' S n mk kd tx len R lm ft A Bs wk ev w → Off S (491 + 24 * n) h h' → post (some (.int (nI (drS (aP (agr mk R) lm n) (aB (agr mk R) lm n) n (fstS (agr mk R) kd t) t seed y)))) h' nx) (hp0 : (∀ t y, t < 10 → y < 12 → a = nI t → ¬ b = nI y) → post (some (.int (-1))) h nx) : Ct g M_X9_drawn [.ref S, .long seed, .int a, .int b] h nx post := by
  obtain ⟨old, gr, C, T, G, P, B, kn, hG, hX⟩ := hX
  obtain ⟨ws, we, nw, nxt, hd, dr, D, so, ch, cu, wy, wg, p, W, e, ku, kl, vu, vl, ⟨x1, x2, x3, x4, x5, x6, x7⟩, ⟨y1, y2, y3, y4, y5, y6⟩⟩ := id hX
  obtain ⟨i1, i2, i3, i4, i5, i6, i7, i8, i9, i10, i11⟩ := id hI
  refine Ct.of (by decide +kernel) (Nat.le_of_ble_eq_true rfl) (v_X9_drawn_0 (c_isThing (fun t ht ha => ⟨1, rfl, by decide, fun q => absurd q (by decide), fun _ => c_isYear (fun y hy hb => ⟨1, rfl, by decide, fun _ => ⟨_, _, _, _, _, _, _, _, x1, c_renewMoves hI hG hX (fun h1 C1 T1 G1 P1 B1 kn1 hX1 hO1 => ?_)⟩, fun q => absurd q (by decide)⟩) (fun hb => ⟨0, rfl, by decide, fun q => absurd rfl q, fun _ => hp0 (fun t y _ hy _ hb2 => hb y hy hb2)⟩)⟩) (fun ha => ⟨0, rfl, by decide, fun _ => hp0 (fun t y ht _ ha2 _ => ha t ht ha2), fun q => absurd rfl q⟩)))
  have hS1 : Ss h1 S n mk kd tx len R lm ft A Bs wk ev w := ⟨0, gr, C1, T1, G1, P1, B1, kn1, hG, hX1⟩
  obtain ⟨ws, we, nw, nxt, hd, dr, D, so, ch, cu, wy, wg, p, W, e, ku, kl, vu, vl, ⟨x1, x2, x3, x4, x5, x6, x7⟩, ⟨y1, y2, y3, y4, y5, y6⟩⟩ := id hX1
  have hc := y2 rfl
  obtain ⟨c1, c2, c3, c4, c5⟩ := id hc
  have hm := cur_mov i1.2 hc
  subst ha; subst hb
  have ee : ∀ i, i < 120 → gr i = agr mk R i := hG
  have hgr := gr_lt i2 i5 hG
  have eF : fstS gr kd t = fstS (agr mk R) kd t := fstS_congr ht ee
  have hpp := hp1 t y ht hy rfl rfl h1 hS1 hO1
  have hlt : ∀ i, drS (aP (agr mk R) lm n) (aB (agr mk R) lm n) n (fstS (agr mk R) kd t) t seed i < n := by
    intro i
    match i with
    | 0 =>
      show fstS (agr mk R) kd t < n
      rw [← eF]
      exact fstS_lt (by omega) ht hgr
    | i + 1 => exact glF_lt (by omega)
  refine ⟨rfl, _, _, _, _, _, _, _, _, x1, _, _, _, _, x3.1, c_firstState x3 ht i1.2 hgr (fun i hi => by have := i3 i hi; omega) ⟨_, rfl, ?_⟩⟩
  rw [eF]
  have main : ∀ d i, y - i = d → i ≤ y → Blk g M_X9_drawn post 34 [(0, .ref S), (1, .long seed), (3, .int (nI t)), (4, .int (nI y)), (5, .int (nI (drS (aP (agr mk R) lm n) (aB (agr mk R) lm n) n (fstS (agr mk R) kd t) t seed i))), (6, .int (nI i))] [] h1 nx 0 0 := by
    intro d
    induction d with
    | zero =>
      intro i hd' hi
      have : i = y := by omega
      subst this
      exact v_X9_drawn_34 ⟨fun _ => hpp, fun q => absurd ((nI_leI (by omega) (by omega)).mpr (Nat.le_refl _)) q⟩
    | succ d ih =>
      intro i hd' hi
      have hl := hlt i
      have hb1 := hm.1 _ hl
      refine v_X9_drawn_34 ⟨fun q => absurd ((nI_leI (by omega) (by omega)).mp q) (by omega), fun _ => ⟨_, _, _, _, _, _, _, _, x1, c_draw ⟨_, rfl, _, _, _, _, _, _, _, _, x4.1, c_goal i1 x4 hl y3 (by omega) (fun r hr g1 g2 => ⟨_, rfl, ?_⟩)⟩⟩⟩
      have er := glF_eq hr g1 g2
      have ec := glF_congr (P := P1) (B := B1) (P' := aP (agr mk R) lm n) (B' := aB (agr mk R) lm n) (n := n) (f := drS (aP (agr mk R) lm n) (aB (agr mk R) lm n) n (fstS (agr mk R) kd t) t seed i) (d := drw seed (nI t) (nI i)) (fun t' ht' => by rw [c4 _ t' hl ht', aP_congr ee]) (by rw [c5 _ hl, aB_congr ee])
      have i1' := ih (i + 1) (by omega) (by omega)
      have es : drS (aP (agr mk R) lm n) (aB (agr mk R) lm n) n (fstS (agr mk R) kd t) t seed (i + 1) = r := by
        show glF _ _ n _ _ = r
        rw [← ec, er]
      rw [es] at i1'
      exact i1'
  exact main y 0 rfl (Nat.zero_le _)
end SS6
