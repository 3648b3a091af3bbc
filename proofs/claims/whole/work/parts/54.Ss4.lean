/-! StateShares: what it answers, 2 -/
theorem lN_i32 {a : Nat} : (lN a).toInt32 = nI a := lN_i a
section SS4
variable {g : xG} {post : xPost} {h : xHp} {nx : Nat}
theorem c_span {S n len lm ft : Nat} {mk : Nat → Option Nat} {kd tx A Bs : Nat → Nat} {R : Rl} {wk ev : Tr} {w : Nat → Int} {a b c d : Int32} (hI : ssI n mk kd tx len R lm ft A Bs wk ev w) (hX : Ss h S n mk kd tx len R lm ft A Bs wk ev w) (hp1 : ∀ s t i j, s < n → t < n → i < 2 → j < 2 → a = nI s → b = nI t → c = nI i → d = nI j → ∀ h', Ss h' S n mk kd tx len R lm ft A Bs wk ev w → Off S (491 + 24 * n) h h' → post (some (.long (lN (smp (aC (agr mk R) (s * 6 + t) + 2 * i) (aT (agr mk R) s + 2) (nI j))))) h' nx) (hp0 : (∀ s t i j, s < n → t < n → i < 2 → j < 2 → a = nI s → b = nI t → c = nI i → ¬ d = nI j) → post (some (.long (-1))) h nx) : Ct g M_X9_span [.ref S, .int a, .int b, .int c, .int d] h nx post := by
  obtain ⟨old, gr, C, T, G, P, B, kn, hG, hX⟩ := hX
  obtain ⟨ws, we, nw, nxt, hd, dr, D, so, ch, cu, wy, wg, p, W, e, ku, kl, vu, vl, ⟨x1, x2, x3, x4, x5, x6, x7⟩, ⟨y1, y2, y3, y4, y5, y6⟩⟩ := id hX
  obtain ⟨i1, i2, i3, i4, i5, i6, i7, i8, i9, i10, i11⟩ := id hI
  refine Ct.of (by decide +kernel) (Nat.le_of_ble_eq_true rfl) (v_X9_span_0 ⟨_, _, _, _, _, _, _, _, x1, c_isState x1 i1.2 (fun s hs ha => ⟨1, rfl, by decide, fun q => absurd q (by decide), fun _ => ⟨_, _, _, _, _, _, _, _, x1, c_isState x1 i1.2 (fun t ht hb => ⟨1, rfl, by decide, fun q => absurd q (by decide), fun _ => ?_⟩) (fun hb => ⟨0, rfl, by decide, fun _ => hp0 (fun s t _ _ _ ht _ _ _ hb2 _ _ => hb t ht hb2), fun q => absurd rfl q⟩)⟩⟩) (fun ha => ⟨0, rfl, by decide, fun _ => hp0 (fun s t _ _ hs _ _ _ ha2 _ _ _ => ha s hs ha2), fun q => absurd rfl q⟩)⟩)
  have e2 : ∀ x : Int32, ¬ x < 0 → (nI 1 < x ↔ nI 2 ≤ x) := by
    intro x hx
    obtain ⟨j, hj, rfl⟩ := nI_of hx
    rw [nI_ltI (by decide) hj, nI_leI (by decide) hj]
    omega
  obtain ⟨r1, r2⟩ := rng (x := c) (N := 2) (A := post (some (.long (-1))) h nx) (B := ∃ k, k < 2 ∧ c = nI k) (by decide) (fun k hk hb => ⟨k, hk, hb⟩) (fun hc => hp0 (fun s t i j _ _ hi _ _ _ hc2 _ => hc i hi hc2))
  obtain ⟨r3, r4⟩ := rng (x := d) (N := 2) (A := post (some (.long (-1))) h nx) (B := ∃ k, k < 2 ∧ d = nI k) (by decide) (fun k hk hb => ⟨k, hk, hb⟩) (fun hc => hp0 (fun s t i j _ _ _ hj _ _ _ hd2 => hc j hj hd2))
  refine ⟨r1, fun q => ⟨fun q2 => (r2 q).1 ((e2 c q).mp q2), fun q2 => ⟨r3, fun q3 => ⟨fun q4 => ?_, fun q4 => (r4 q3).1 (Decidable.byContradiction fun z => q4 (Int32.not_lt.mp (fun y => z ((e2 d q3).mp y))))⟩⟩⟩⟩
  obtain ⟨i, hi, hc⟩ := (r2 q).2 (fun z => q2 ((e2 c q).mpr z))
  obtain ⟨j, hj, hd'⟩ := (r4 q3).2 (fun z => absurd ((e2 d q3).mpr z) (Int32.not_lt.mpr q4))
  refine ⟨_, _, _, _, _, _, _, _, x1, c_renewMoves hI hG hX (fun h1 C1 T1 G1 P1 B1 kn1 hX1 hO1 => ?_)⟩
  have hS1 : Ss h1 S n mk kd tx len R lm ft A Bs wk ev w := ⟨0, gr, C1, T1, G1, P1, B1, kn1, hG, hX1⟩
  obtain ⟨ws, we, nw, nxt, hd, dr, D, so, ch, cu, wy, wg, p, W, e, ku, kl, vu, vl, ⟨x1, x2, x3, x4, x5, x6, x7⟩, ⟨y1, y2, y3, y4, y5, y6⟩⟩ := id hX1
  obtain ⟨c1, c2, c3, c4, c5⟩ := y2 rfl
  subst ha; subst hb; subst hc; subst hd'
  have ee : ∀ i, i < 120 → gr i = agr mk R i := hG
  have hpp := hp1 s t i j hs ht hi hj rfl rfl rfl rfl h1 hS1 hO1
  have g1 : C1 (s * 6 + t) = aC (agr mk R) (s * 6 + t) := by rw [c1 _ (by omega), aC_congr ee]
  have g2 : T1 s = aT (agr mk R) s := by rw [c2 s hs, aT_congr ee]
  rw [← g1, ← g2] at hpp
  have b1 : C1 (s * 6 + t) ≤ 110 := by rw [c1 _ (by omega)]; exact ct_le 110
  have b2 : T1 s ≤ 110 := by rw [c2 s hs]; exact tot_le 110
  refine ⟨rfl, _, _, _, _, _, _, _, _, x1, _, _, _, _, _, _, _, _, x4.1, c_number x4 (by omega) ⟨_, rfl, _, _, _, _, _, _, _, _, x1, _, _, _, _, _, _, _, _, x4.1, c_total x4 (by omega) ⟨_, rfl, by omega, ?_⟩⟩⟩
  rw [pk_mul, nI_add, nI_l (by omega)]
  exact c_small (by omega) ⟨by omega, by omega⟩ ⟨_, rfl, hpp⟩
theorem c_worth {S n len lm ft : Nat} {mk : Nat → Option Nat} {kd tx A Bs : Nat → Nat} {R : Rl} {wk ev : Tr} {w : Nat → Int} {a x : Int32} (hI : ssI n mk kd tx len R lm ft A Bs wk ev w) (hX : Ss h S n mk kd tx len R lm ft A Bs wk ev w) (hp1 : ∀ y, y < 12 → a = nI y → (∀ z, z ≤ y → ¬ lng n (fa n mk R lm A Bs wk ev z).1 (fa n mk R lm A Bs wk ev z).2) → ∀ h' u l, Ss h' S n mk kd tx len R lm ft A Bs wk ev w → lowT (dst (wsP n w (fa n mk R lm A Bs wk ev y).1) (wsN n w (fa n mk R lm A Bs wk ev y).1)) (fa n mk R lm A Bs wk ev y).2 u l → Off S (491 + 24 * n) h h' → post (some (.long (if x = -1 then (cmpN (wsP n w (fa n mk R lm A Bs wk ev y).1) (wsN n w (fa n mk R lm A Bs wk ev y).1)).toInt64 else lN (dgt u l x)))) h' nx) (hp2 : ∀ y, y < 12 → a = nI y → (∃ z, z ≤ y ∧ lng n (fa n mk R lm A Bs wk ev z).1 (fa n mk R lm A Bs wk ev z).2) → ∀ h', Ss h' S n mk kd tx len R lm ft A Bs wk ev w → Off S (491 + 24 * n) h h' → post (some (.long (-1))) h' nx) (hp0 : (∀ t, t < 12 → ¬ a = nI t) → post (some (.long (-1))) h nx) : Ct g M_X9_worth [.ref S, .int a, .int x] h nx post := by
  obtain ⟨old, gr, C, T, G, P, B, kn, hG, hX⟩ := hX
  obtain ⟨ws, we, nw, nxt, hd, dr, D, so, ch, cu, wy, wg, p, W, e, ku, kl, vu, vl, ⟨x1, x2, x3, x4, x5, x6, x7⟩, ⟨y1, y2, y3, y4, y5, y6⟩⟩ := id hX
  obtain ⟨i1, i2, i3, i4, i5, i6, i7, i8, i9, i10, i11⟩ := id hI
  refine Ct.of (by decide +kernel) (Nat.le_of_ble_eq_true rfl) (v_X9_worth_0 ⟨_, _, _, _, _, _, _, _, x1, c_foretold hI hG hX (fun ha => ⟨0, rfl, by decide, fun _ => hp0 ha, fun q => absurd rfl q⟩) (fun y hy ha h1 C1 T1 G1 P1 B1 kn1 hX1 hk1 hO1 => ?_)⟩)
  have hS1 : Ss h1 S n mk kd tx len R lm ft A Bs wk ev w := ⟨0, gr, C1, T1, G1, P1, B1, kn1, hG, hX1⟩
  obtain ⟨ws, we, nw, nxt, hd, dr, D, so, ch, cu, wy, wg, p, W, e, ku, kl, vu, vl, ⟨x1, x2, x3, x4, x5, x6, x7⟩, ⟨y1, y2, y3, y4, y5, y6⟩⟩ := id hX1
  have hc := y2 rfl
  subst ha
  rcases hk1 with hlt | ⟨hge, hl⟩
  · rw [if_pos hlt]
    have k12 := y5.1
    have hrow : ∀ z, z < kn1 → rowOK n p W e ku kl z (fa n mk R lm A Bs wk ev z).1 (fa n mk R lm A Bs wk ev z).2 := by
      intro z hz
      obtain ⟨e1, e2⟩ := fa_of hI hG hc z (by omega)
      have := rowOK_congr e2 (y5.2.1 z hz)
      rw [e1] at this
      exact this
    have hno : ∀ z, z ≤ y → ¬ lng n (fa n mk R lm A Bs wk ev z).1 (fa n mk R lm A Bs wk ev z).2 := fun z hz => lng_no (fa_ok hI z (by omega)).1 (hrow z (by omega))
    have hwI := wI_congr (fun z hz => fa_of hI hG hc z (by omega)) y6
    refine ⟨1, rfl, by decide, fun q => absurd q (by decide), fun _ => ⟨_, _, _, _, _, _, _, _, x1, _, _, _, _, _, _, _, _, _, _, _, _, _, _, _, _, _, _, x7.1, c_worthDigits x7 hy (hrow y hlt) (fa_ok hI y hy) i11 (fun hwy => ?_) (fun h2 u2 l2 hF2 hl2 hO2 => ?_)⟩⟩
    · rcases hwI with z | ⟨z, z1, z2, z3, z4⟩
      · rw [z] at hwy
        exact absurd hwy.symm (nI_ne_m1 (by omega))
      · rw [z2] at hwy
        have : z = y := (nI_eq (by omega) (by omega)).mp hwy
        subst this
        exact ⟨z3, z4⟩
    have o1 : ∀ q, (q < S + 40 ∨ S + 491 + 24 * n ≤ q) → h2 q = h1 q := fun q a => hO2 q (by omega)
    obtain ⟨f1, f2⟩ := fa_of hI hG hc y (by omega)
    have hS2 : Ss h2 S n mk kd tx len R lm ft A Bs wk ev w := ⟨0, gr, C1, T1, G1, P1, B1, kn1, hG, ⟨ws, we, nw, nxt, hd, dr, D, so, ch, cu, nI y, _, p, W, e, ku, kl, u2, l2, ⟨(o1 S (by omega)).trans x1, x2.ofq (fun q a b => o1 q (by omega)), x3.ofq (fun q a b => o1 q (by omega)), x4.ofq (fun q a b => o1 q (by omega)), x5.ofq (fun q a b => o1 q (by omega)), x6.ofq (fun q a b => o1 q (by omega)), hF2⟩, ⟨y1, y2, y3, y4, y5, wI_congr (f := fa n mk R lm A Bs wk ev) (fun z hz => ⟨(fa_of hI hG hc z (by omega)).1.symm, fun s hs => ((fa_of hI hG hc z (by omega)).2 s hs).symm⟩) (Or.inr ⟨y, hlt, rfl, rfl, hl2⟩)⟩⟩⟩
    exact ⟨_, rfl, hp1 y hy rfl hno h2 u2 l2 hS2 hl2 (hO1.tr (hO2.mono (by omega) (by omega)))⟩
  · rw [if_neg (by omega)]
    obtain ⟨e1, e2⟩ := fa_of hI hG hc kn1 (by omega)
    have hl2 := lng_congr e2 hl
    rw [e1] at hl2
    exact ⟨0, rfl, by decide, fun _ => hp2 y hy rfl ⟨kn1, hge, hl2⟩ h1 hS1 hO1, fun q => absurd rfl q⟩
theorem c_target {S n len lm ft : Nat} {mk : Nat → Option Nat} {kd tx A Bs : Nat → Nat} {R : Rl} {wk ev : Tr} {w : Nat → Int} {a : Int32} {xa xb : Int64} (hI : ssI n mk kd tx len R lm ft A Bs wk ev w) (hX : Ss h S n mk kd tx len R lm ft A Bs wk ev w) (hp1 : ∀ s u v, s < n → u ≤ v → 0 < v → v ≤ 1000 → a = nI s → xa = lN u → xb = lN v → ∀ h' y, y < 12 → (∀ z, z ≤ y → ¬ lng n (fa n mk R lm A Bs wk ev z).1 (fa n mk R lm A Bs wk ev z).2) → (∀ z, z < y → ¬ (fa n mk R lm A Bs wk ev z).2 * u ≤ (sm (fa n mk R lm A Bs wk ev z).1 n - sm (fa n mk R lm A Bs wk ev z).1 s) * v) → (fa n mk R lm A Bs wk ev y).2 * u ≤ (sm (fa n mk R lm A Bs wk ev y).1 n - sm (fa n mk R lm A Bs wk ev y).1 s) * v → Ss h' S n mk kd tx len R lm ft A Bs wk ev w → Off S (491 + 24 * n) h h' → post (some (.int (nI y))) h' nx)
    (hp2 : ∀ s u v, s < n → u ≤ v → 0 < v → v ≤ 1000 → a = nI s → xa = lN u → xb = lN v → ∀ h' y, y ≤ 12 → (y = 12 ∨ ∃ z, z ≤ y ∧ lng n (fa n mk R lm A Bs wk ev z).1 (fa n mk R lm A Bs wk ev z).2) → (∀ z, z < y → (¬ lng n (fa n mk R lm A Bs wk ev z).1 (fa n mk R lm A Bs wk ev z).2) ∧ ¬ (fa n mk R lm A Bs wk ev z).2 * u ≤ (sm (fa n mk R lm A Bs wk ev z).1 n - sm (fa n mk R lm A Bs wk ev z).1 s) * v) → Ss h' S n mk kd tx len R lm ft A Bs wk ev w → Off S (491 + 24 * n) h h' → post (some (.int (-1))) h' nx)
    (hp0 : (∀ s u v, s < n → u ≤ v → 0 < v → v ≤ 1000 → a = nI s → xa = lN u → ¬ xb = lN v) → post (some (.int (-1))) h nx) : Ct g M_X9_target [.ref S, .int a, .long xa, .long xb] h nx post := by
  have hX0 := hX
  obtain ⟨old, gr, C, T, G, P, B, kn, hG, hX⟩ := hX
  obtain ⟨ws, we, nw, nxt, hd, dr, D, so, ch, cu, wy, wg, p, W, e, ku, kl, vu, vl, ⟨x1, x2, x3, x4, x5, x6, x7⟩, ⟨y1, y2, y3, y4, y5, y6⟩⟩ := id hX
  obtain ⟨i1, i2, i3, i4, i5, i6, i7, i8, i9, i10, i11⟩ := id hI
  refine Ct.of (by decide +kernel) (Nat.le_of_ble_eq_true rfl) (v_X9_target_0 ⟨_, _, _, _, _, _, _, _, x1, c_isState x1 i1.2 (fun s hs ha => ⟨1, rfl, by decide, fun q => absurd q (by decide), fun _ => c_isFraction (fun u v huv hv0 hv hxa hxb => ⟨1, rfl, by decide, fun _ => ?_, fun q => absurd q (by decide)⟩) (fun hx => ⟨0, rfl, by decide, fun q => absurd rfl q, fun _ => hp0 (fun s u v _ h2 h3 h4 _ h6 h7 => hx u v h2 h3 h4 h6 h7)⟩)⟩) (fun ha => ⟨0, rfl, by decide, fun _ => hp0 (fun s u v hs _ _ _ ha2 _ _ => ha s hs ha2), fun q => absurd rfl q⟩)⟩)
  subst ha; subst hxa; subst hxb
  have main : ∀ (d y : Nat) (h' : xHp), 12 - y = d → y ≤ 12 → Ss h' S n mk kd tx len R lm ft A Bs wk ev w → Off S (491 + 24 * n) h h' → (∀ z, z < y → (¬ lng n (fa n mk R lm A Bs wk ev z).1 (fa n mk R lm A Bs wk ev z).2) ∧ ¬ (fa n mk R lm A Bs wk ev z).2 * u ≤ (sm (fa n mk R lm A Bs wk ev z).1 n - sm (fa n mk R lm A Bs wk ev z).1 s) * v) → Blk g M_X9_target post 22 [(0, .ref S), (1, .int (nI s)), (2, .long (lN u)), (4, .long (lN v)), (6, .int (nI y))] [] h' nx 0 0 := by
    intro d
    induction d with
    | zero =>
      intro y h' hd hy hX' hO hno
      have : y = 12 := by omega
      subst this
      exact v_X9_target_22 ⟨⟨by decide, by decide⟩, fun _ => hp2 s u v hs huv hv0 hv rfl rfl rfl h' 12 (by decide) (Or.inl rfl) hno hX' hO, fun q => absurd q (by decide)⟩
    | succ d ih =>
      intro y h' hdd hyy hX' hO hnoz
      obtain ⟨old', gr', C', T', G', P', B', kn', hG', hXX⟩ := id hX'
      have hSo : h' S = some (ssO S n old') := by
        obtain ⟨_, _, _, _, _, _, _, _, _, _, _, _, _, _, _, _, _, _, _, ⟨q1, _⟩, _⟩ := hXX
        exact q1
      refine v_X9_target_22 ⟨⟨by omega, by decide⟩, fun q => absurd q (by omega), fun _ => ⟨_, _, _, _, _, _, _, _, hSo, c_foretold hI hG' hXX (fun ha => absurd rfl (ha y (by omega))) (fun y2' hy2 ha h1 C1 T1 G1 P1 B1 kn1 hX1 hk1 hO1 => ?_)⟩⟩
      have hyy2 : y2' = y := ((nI_eq (by omega) (by omega)).mp ha).symm
      subst hyy2
      have hG := hG'
      have hS1 : Ss h1 S n mk kd tx len R lm ft A Bs wk ev w := ⟨0, gr', C1, T1, G1, P1, B1, kn1, hG', hX1⟩
      obtain ⟨ws, we, nw, nxt, hd, dr, D, so, ch, cu, wy, wg, p, W, e, ku, kl, vu, vl, ⟨x1, x2, x3, x4, x5, x6, x7⟩, ⟨y1, y2, y3, y4, y5, y6⟩⟩ := id hX1
      have hc := y2 rfl
      have y := y2'
      rcases hk1 with hlt | ⟨hge, hl⟩
      · rw [if_pos hlt]
        have k12 := y5.1
        have hrow : ∀ z, z < kn1 → rowOK n p W e ku kl z (fa n mk R lm A Bs wk ev z).1 (fa n mk R lm A Bs wk ev z).2 := by
          intro z hz
          obtain ⟨e1, e2⟩ := fa_of hI hG hc z (by omega)
          have := rowOK_congr e2 (y5.2.1 z hz)
          rw [e1] at this
          exact this
        have hno : ∀ z, z ≤ y2' → ¬ lng n (fa n mk R lm A Bs wk ev z).1 (fa n mk R lm A Bs wk ev z).2 := fun z hz => lng_no (fa_ok hI z (by omega)).1 (hrow z (by omega))
        refine ⟨1, rfl, by decide, fun q => absurd q (by decide), fun _ => ⟨_, _, _, _, _, _, _, _, x1, _, _, _, _, _, _, _, _, _, _, _, _, _, _, _, _, _, _, x7.1, ?_⟩⟩
        rw [lN_i, lN_i]
        refine c_reaches x7 (by omega) hs ⟨huv, hv⟩ (hrow y2' hlt) (fa_ok hI y2' (by omega)) (fun h2 hF2 hO2 => ?_)
        have o1 : ∀ q, (q < S + 40 ∨ S + 491 + 24 * n ≤ q) → h2 q = h1 q := fun q a => hO2 q (by omega)
        have hS2 : Ss h2 S n mk kd tx len R lm ft A Bs wk ev w := ⟨0, gr', C1, T1, G1, P1, B1, kn1, hG, ⟨ws, we, nw, nxt, hd, dr, D, so, ch, cu, wy, wg, p, W, e, ku, kl, vu, vl, ⟨(o1 S (by omega)).trans x1, x2.ofq (fun q a b => o1 q (by omega)), x3.ofq (fun q a b => o1 q (by omega)), x4.ofq (fun q a b => o1 q (by omega)), x5.ofq (fun q a b => o1 q (by omega)), x6.ofq (fun q a b => o1 q (by omega)), hF2⟩, ⟨y1, y2, y3, y4, y5, y6⟩⟩⟩
        have hO3 : Off S (491 + 24 * n) h h2 := (hO.tr hO1).tr (hO2.mono (by omega) (by omega))
        refine ⟨_, rfl, by split <;> decide, fun q => ?_, fun q => ?_⟩
        · by_cases z : (fa n mk R lm A Bs wk ev y2').2 * u ≤ (sm (fa n mk R lm A Bs wk ev y2').1 n - sm (fa n mk R lm A Bs wk ev y2').1 s) * v
          · rw [if_pos z] at q; exact absurd q (by decide)
          · refine ih (y2' + 1) h2 (by omega) (by omega) hS2 hO3 (fun k hk => ?_)
            by_cases zz : k = y2'
            · subst zz; exact ⟨hno k (by omega), z⟩
            · exact hnoz k (by omega)
        · by_cases z : (fa n mk R lm A Bs wk ev y2').2 * u ≤ (sm (fa n mk R lm A Bs wk ev y2').1 n - sm (fa n mk R lm A Bs wk ev y2').1 s) * v
          · exact hp1 s u v hs huv hv0 hv rfl rfl rfl h2 y2' (by omega) hno (fun k hk => (hnoz k hk).2) z hS2 hO3
          · rw [if_neg z] at q; exact absurd rfl q
      · rw [if_neg (by omega)]
        obtain ⟨e1, e2⟩ := fa_of hI hG hc kn1 (by omega)
        have hl2 := lng_congr e2 hl
        rw [e1] at hl2
        exact ⟨0, rfl, by decide, fun _ => hp2 s u v hs huv hv0 hv rfl rfl rfl h1 y2' (by omega) (Or.inr ⟨kn1, hge, hl2⟩) hnoz hS1 (hO.tr hO1), fun q => absurd rfl q⟩
  exact main 12 0 h rfl (by decide) hX0 Off.rf (fun z hz => absurd hz (by omega))
end SS4
