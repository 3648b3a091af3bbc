/-! StateShares: the whole object -/
/-- what was told, in order -/
def ssI (n : Nat) (mk : Nat → Option Nat) (kd tx : Nat → Nat) (len : Nat) (R : Rl) (lm ft : Nat) (A Bs : Nat → Nat) (wk ev : Tr) (w : Nat → Int) : Prop :=
  (2 ≤ n ∧ n ≤ 6) ∧ (∀ i s, i < 480 → mk i = some s → s < n) ∧ (∀ i, i < 10 → kd i ≤ 3) ∧ (len ≤ 120 ∧ ∀ i, i < len → 32 ≤ tx i ∧ tx i ≤ 126) ∧ rlOK n R ∧ lm ≤ 50 ∧ ft ≤ 1 ∧ stOK n A Bs ∧ trsOK n wk ∧ trsOK n ev ∧ ∀ s, s < n → (w s).natAbs ≤ 1000000
def grOK (mk : Nat → Option Nat) (R : Rl) (gr : Nat → Option Nat) : Prop := ∀ i, i < 120 → gr i = grd R (fun p => mk (i * 4 + p))
theorem gr_lt {n : Nat} {mk gr : Nat → Option Nat} {R : Rl} (hmk : ∀ i s, i < 480 → mk i = some s → s < n) (hR : rlOK n R) (hg : grOK mk R gr) : ∀ i s, i < 120 → gr i = some s → s < n := by
  intro i s hi hs
  rw [hg i hi, grd_congr (m' := fun p => if p < 4 then mk (i * 4 + p) else none) (fun p hp => (if_pos hp).symm)] at hs
  refine grd_lt hR (fun p t hp => ?_) hs
  have hp : (if p < 4 then mk (i * 4 + p) else none) = some t := hp
  by_cases z : p < 4
  · rw [if_pos z] at hp; exact hmk _ t (by omega) hp
  · rw [if_neg z] at hp; cases hp
def wI (n : Nat) (w : Nat → Int) (f : Nat → (Nat → Nat) × Nat) (kn : Nat) (wy wg : Int32) (vu vl : Nat) : Prop := wy = -1 ∨ ∃ z, z < kn ∧ wy = nI z ∧ wg = cmpN (wsP n w (f z).1) (wsN n w (f z).1) ∧ lowT (dst (wsP n w (f z).1) (wsN n w (f z).1)) (f z).2 vu vl
/-- the object and all that it holds -/
def SsX (h : xHp) (S n : Nat) (mk : Nat → Option Nat) (kd tx : Nat → Nat) (len : Nat) (R : Rl) (lm ft : Nat) (A Bs : Nat → Nat) (wk ev : Tr) (w : Nat → Int) (old : Nat) (gr : Nat → Option Nat) (C T G P B : Nat → Nat) (kn : Nat) : Prop :=
  ∃ (ws we : Nat → Nat) (nw nxt hd dr : Nat) (D : Rl) (so : Nat → Nat) (ch cu : Nat) (wy wg : Int32) (p : Nat → Nat → Nat) (W : Nat → Nat) (e : Nat → Nat → Nat) (ku kl : Nat → Nat) (vu vl : Nat),
    (h S = some (ssO S n old) ∧ RuAt h (S + 1) n tx len ws we nw nxt hd dr R D ∧ MkAt h (S + 17) mk gr kd so ∧ MovAt h (S + 22) n C T G P B lm ch ∧ TrsAt h (S + 28) wk ∧ TrsAt h (S + 34) ev ∧ FcAt h (S + 40) n (S + 22) (S + 28) (S + 34) ft kn cu wy wg A Bs p W e ku kl w vu vl) ∧
    (old ≤ 1 ∧ (old = 0 → curS n gr lm C T G P B) ∧ (∀ i, i < 36 → P i < 2 ^ 31) ∧ (∀ f, f < n → B f = sm (fun t => P (f * 6 + t)) n) ∧ FcI n A Bs wk ev P B kn cu p W e ku kl ∧ wI n w (fcs n A Bs wk ev P B) kn wy wg vu vl)
theorem FcAt.ofq {h h' : xHp} {F n m wt et ft kn cu vu vl : Nat} {wy wg : Int32} {A B : Nat → Nat} {p : Nat → Nat → Nat} {W : Nat → Nat} {e : Nat → Nat → Nat} {ku kl : Nat → Nat} {w : Nat → Int} (k : FcAt h F n m wt et ft kn cu wy wg A B p W e ku kl w vu vl) (o : ∀ q, F ≤ q → q < F + 451 + 24 * n → h' q = h q) : FcAt h' F n m wt et ft kn cu wy wg A B p W e ku kl w vu vl := by
  obtain ⟨fO, fS, fA, fB, fD, fW⟩ := k
  exact ⟨(o _ (by omega) (by omega)).trans fO, fS.ofq (fun q hq => o q (by omega) (by omega)), (o _ (by omega) (by omega)).trans fA, (o _ (by omega) (by omega)).trans fB, fD.ofq (fun q a b c => o q (by omega) (by omega)), fW.ofq (fun q a b => o q (by omega) (by omega))⟩
theorem MovAt.ofq {h h' : xHp} {m n lm ch : Nat} {C T G P B : Nat → Nat} (k : MovAt h m n C T G P B lm ch) (o : ∀ q, m ≤ q → q < m + 6 → h' q = h q) : MovAt h' m n C T G P B lm ch := by
  obtain ⟨k0, k1, k2, k3, k4, k5⟩ := k
  exact ⟨(o _ (by omega) (by omega)).trans k0, (o _ (by omega) (by omega)).trans k1, (o _ (by omega) (by omega)).trans k2, (o _ (by omega) (by omega)).trans k3, (o _ (by omega) (by omega)).trans k4, (o _ (by omega) (by omega)).trans k5⟩
theorem MkAt.ofq {h h' : xHp} {m : Nat} {mk gr : Nat → Option Nat} {kd so : Nat → Nat} (k : MkAt h m mk gr kd so) (o : ∀ q, m ≤ q → q < m + 5 → h' q = h q) : MkAt h' m mk gr kd so := by
  obtain ⟨k0, k1, k2, k3, k4⟩ := k
  exact ⟨(o _ (by omega) (by omega)).trans k0, (o _ (by omega) (by omega)).trans k1, (o _ (by omega) (by omega)).trans k2, (o _ (by omega) (by omega)).trans k3, (o _ (by omega) (by omega)).trans k4⟩
theorem RlAt.ofq {h h' : xHp} {r : Nat} {R : Rl} (k : RlAt h r R) (o : ∀ q, r ≤ q → q < r + 6 → h' q = h q) : RlAt h' r R := by
  obtain ⟨k0, k1, k2, k3, k4, k5⟩ := k
  exact ⟨(o _ (by omega) (by omega)).trans k0, (o _ (by omega) (by omega)).trans k1, (o _ (by omega) (by omega)).trans k2, (o _ (by omega) (by omega)).trans k3, (o _ (by omega) (by omega)).trans k4, (o _ (by omega) (by omega)).trans k5⟩
theorem RuAt.ofq {h h' : xHp} {q n len w nxt hd dr : Nat} {tx ws we : Nat → Nat} {R D : Rl} (k : RuAt h q n tx len ws we w nxt hd dr R D) (o : ∀ a, q ≤ a → a < q + 16 → h' a = h a) : RuAt h' q n tx len ws we w nxt hd dr R D := by
  obtain ⟨k0, k1, k2, k3, k4, k5, k6⟩ := k
  exact ⟨(o _ (by omega) (by omega)).trans k0, (o _ (by omega) (by omega)).trans k1, (o _ (by omega) (by omega)).trans k2, (o _ (by omega) (by omega)).trans k3, k4, k5.ofq (fun a x y => o a (by omega) (by omega)), k6.ofq (fun a x y => o a (by omega) (by omega))⟩
theorem TrsAt.ofq {h h' : xHp} {t : Nat} {w : Tr} (k : TrsAt h t w) (o : ∀ q, t ≤ q → q < t + 6 → h' q = h q) : TrsAt h' t w := by
  obtain ⟨A, B, ⟨k0, k1, k2, k3, k4, k5⟩, k6⟩ := k
  exact ⟨A, B, ⟨(o _ (by omega) (by omega)).trans k0, (o _ (by omega) (by omega)).trans k1, (o _ (by omega) (by omega)).trans k2, (o _ (by omega) (by omega)).trans k3, (o _ (by omega) (by omega)).trans k4, (o _ (by omega) (by omega)).trans k5⟩, k6⟩
theorem wI_congr {n kn : Nat} {w : Nat → Int} {f f' : Nat → (Nat → Nat) × Nat} {wy wg : Int32} {vu vl : Nat} (h : ∀ z, z < kn → (f z).2 = (f' z).2 ∧ ∀ s, s < n → (f z).1 s = (f' z).1 s) (k : wI n w f kn wy wg vu vl) : wI n w f' kn wy wg vu vl := by
  rcases k with z | ⟨z, h1, h2, h3, h4⟩
  · exact Or.inl z
  · obtain ⟨e1, e2⟩ := h z h1
    have p1 : wsP n w (f z).1 = wsP n w (f' z).1 := sm_congr fun s hs => by rw [e2 s hs]
    have p2 : wsN n w (f z).1 = wsN n w (f' z).1 := sm_congr fun s hs => by rw [e2 s hs]
    rw [p1, p2] at h3 h4
    rw [e1] at h4
    exact Or.inr ⟨z, h1, h2, h3, h4⟩
section SS2
variable {g : xG} {post : xPost} {h : xHp} {nx : Nat}
theorem c_renewMoves {S n len lm ft old kn : Nat} {mk gr : Nat → Option Nat} {kd tx A Bs C T G P B : Nat → Nat} {R : Rl} {wk ev : Tr} {w : Nat → Int} (hI : ssI n mk kd tx len R lm ft A Bs wk ev w) (hG : grOK mk R gr) (hX : SsX h S n mk kd tx len R lm ft A Bs wk ev w old gr C T G P B kn)
    (hp : ∀ h' C' T' G' P' B' kn', SsX h' S n mk kd tx len R lm ft A Bs wk ev w 0 gr C' T' G' P' B' kn' → Off S (491 + 24 * n) h h' → post none h' nx) : Ct g M_X9_renewMoves [.ref S] h nx post := by
  obtain ⟨ws, we, nw, nxt, hd, dr, D, so, ch, cu, wy, wg, p, W, e, ku, kl, vu, vl, ⟨x1, x2, x3, x4, x5, x6, x7⟩, ⟨y1, y2, y3, y4, y5, y6⟩⟩ := id hX
  obtain ⟨i1, i2, i3, i4, i5, i6, i7, i8, i9, i10, i11⟩ := id hI
  refine Ct.of (by decide +kernel) (Nat.le_of_ble_eq_true rfl) (v_X9_renewMoves_0 ⟨_, _, _, _, _, _, _, _, x1, by omega, fun q => ?_, fun q => ⟨_, _, _, _, _, _, _, _, x4.1, ?_⟩⟩)
  · subst q
    exact hp h C T G P B kn hX Off.rf
  · have o1 : ∀ q, ¬ q = S → xup h S (ssO S n 0) q = h q := fun q hq => xup_n hq
    refine c_renew i1 (x4.ofq (fun q a b => o1 q (by omega))) (x3.ofq (fun q a b => o1 q (by omega))) (by omega) (gr_lt i2 i5 hG) i6 y3 (fun h1 C1 T1 G1 P1 B1 ch1 hM1 c1 c2 c3 c4 c5 c6 c7 c8 hO1 => ⟨_, rfl, by omega, fun q2 => ?_, fun q2 => ?_⟩)
    · have cur := cur_of i1.2 c1 c2 c3 c4 c5
      have hm := cur_mov i1.2 cur
      have o2 : ∀ q, ¬ q = S → (q < S + 22 ∨ S + 28 ≤ q) → h1 q = h q := fun q a b => (hO1 q (by omega)).trans (o1 q a)
      have eP : ∀ f t, f < n → t < n → P (f * 6 + t) = P1 (f * 6 + t) := fun f t _ _ => (c8 q2 _).symm
      have eB : ∀ f, f < n → B f = B1 f := by
        intro f hf
        rw [y4 f hf, hm.2 f hf]
        exact sm_congr fun t ht => eP f t hf ht
      refine hp h1 C1 T1 G1 P1 B1 kn ⟨ws, we, nw, nxt, hd, dr, D, so, ch1, cu, wy, wg, p, W, e, ku, kl, vu, vl, ⟨(hO1 S (by omega)).trans (xup_s _ _ _), x2.ofq (fun q a b => o2 q (by omega) (by omega)), x3.ofq (fun q a b => o2 q (by omega) (by omega)), hM1, x5.ofq (fun q a b => o2 q (by omega) (by omega)), x6.ofq (fun q a b => o2 q (by omega) (by omega)), x7.ofq (fun q a b => o2 q (by omega) (by omega))⟩, ⟨by omega, fun _ => cur, c6, hm.2, FcI_congr i9 i10 eP eB y5, wI_congr (fun z hz => fcs_congr i9 i10 eP eB z (by have := y5.1; omega)) y6⟩⟩ ((Off.rf.up (by omega) (by omega)).tr (hO1.mono (by omega) (by omega)))
    · have cur := cur_of i1.2 c1 c2 c3 c4 c5
      have hm := cur_mov i1.2 cur
      have o2 : ∀ q, ¬ q = S → (q < S + 22 ∨ S + 28 ≤ q) → h1 q = h q := fun q a b => (hO1 q (by omega)).trans (o1 q a)
      have hF1 := x7.ofq (h' := h1) (fun q a b => o2 q (by omega) (by omega))
      obtain ⟨z1, z2, z3⟩ := id y5
      refine ⟨_, _, _, _, _, _, _, _, (hO1 S (by omega)).trans (xup_s _ _ _), _, _, _, _, _, _, _, _, _, _, _, _, _, _, _, _, _, _, hF1.1, c_forget hF1 z1 (by omega) (by decide) (fun h2 hF2 hO2 => ⟨rfl, ?_⟩)⟩
      have o3 : ∀ q, ¬ q = S → (q < S + 22 ∨ S + 28 ≤ q) → (q < S + 40 ∨ S + 491 + 24 * n ≤ q) → h2 q = h q := fun q a b c => (hO2 q (by omega)).trans (o2 q a b)
      have o4 : ∀ q, (q < S + 40 ∨ S + 491 + 24 * n ≤ q) → h2 q = h1 q := fun q a => hO2 q (by omega)
      refine hp h2 C1 T1 G1 P1 B1 (min kn 1) ⟨ws, we, nw, nxt, hd, dr, D, so, ch1, (if cu < 1 then cu else 12), -1, wg, p, W, e, ku, kl, vu, vl, ⟨(o4 S (by omega)).trans ((hO1 S (by omega)).trans (xup_s _ _ _)), x2.ofq (fun q a b => o3 q (by omega) (by omega) (by omega)), x3.ofq (fun q a b => o3 q (by omega) (by omega) (by omega)), hM1.ofq (fun q a b => o4 q (by omega)), x5.ofq (fun q a b => o3 q (by omega) (by omega) (by omega)), x6.ofq (fun q a b => o3 q (by omega) (by omega) (by omega)), hF2⟩, ⟨by omega, fun _ => cur, c6, hm.2, ⟨by omega, fun y hy => ?_, ?_⟩, Or.inl rfl⟩⟩ (((Off.rf.up (by omega) (by omega)).tr (hO1.mono (by omega) (by omega))).tr (hO2.mono (by omega) (by omega)))
      · have hy0 : y = 0 := by omega
        subst hy0
        exact z2 0 (by omega)
      · by_cases c0 : cu < 1
        · rw [if_pos c0]
          rcases z3 with z | ⟨w1, w2, w3⟩
          · omega
          · have hc0 : cu = 0 := by omega
            subst hc0
            exact Or.inr ⟨by omega, by omega, w3⟩
        · rw [if_neg c0]; exact Or.inl rfl
theorem c_foretold {S n len lm ft old kn : Nat} {x : Int32} {mk gr : Nat → Option Nat} {kd tx A Bs C T G P B : Nat → Nat} {R : Rl} {wk ev : Tr} {w : Nat → Int} (hI : ssI n mk kd tx len R lm ft A Bs wk ev w) (hG : grOK mk R gr) (hX : SsX h S n mk kd tx len R lm ft A Bs wk ev w old gr C T G P B kn)
    (hp0 : (∀ t, t < 12 → ¬ x = nI t) → post (some (.int (nI 0))) h nx)
    (hp : ∀ y, y < 12 → x = nI y → ∀ h' C' T' G' P' B' kn', SsX h' S n mk kd tx len R lm ft A Bs wk ev w 0 gr C' T' G' P' B' kn' → (y < kn' ∨ kn' ≤ y ∧ lng n (fcs n A Bs wk ev P' B' kn').1 (fcs n A Bs wk ev P' B' kn').2) → Off S (491 + 24 * n) h h' → post (some (.int (nI (if y < kn' then 1 else 0)))) h' nx) : Ct g M_X9_foretold [.ref S, .int x] h nx post := by
  have hS : h S = some (ssO S n old) := by
    obtain ⟨ws, we, nw, nxt, hd, dr, D, so, ch, cu, wy, wg, p, W, e, ku, kl, vu, vl, ⟨x1, _⟩, _⟩ := hX
    exact x1
  refine Ct.of (by decide +kernel) (Nat.le_of_ble_eq_true rfl) (v_X9_foretold_0 (c_isYear (fun y hy hx => ⟨1, rfl, by decide, fun _ => ⟨_, _, _, _, _, _, _, _, hS, c_renewMoves hI hG hX (fun h1 C1 T1 G1 P1 B1 kn1 hX1 hO1 => ?_)⟩, fun q => absurd q (by decide)⟩) (fun hx => ⟨0, rfl, by decide, fun q => absurd rfl q, fun _ => hp0 hx⟩)))
  obtain ⟨ws, we, nw, nxt, hd, dr, D, so, ch, cu, wy, wg, p, W, e, ku, kl, vu, vl, ⟨x1, x2, x3, x4, x5, x6, x7⟩, ⟨y1, y2, y3, y4, y5, y6⟩⟩ := id hX1
  obtain ⟨i1, i2, i3, i4, i5, i6, i7, i8, i9, i10, i11⟩ := id hI
  have hm := cur_mov i1.2 (y2 rfl)
  subst hx
  refine ⟨rfl, _, _, _, _, _, _, _, _, x1, _, _, _, _, _, _, _, _, _, _, _, _, _, _, _, _, _, _, x7.1, c_stands i1 x7 x4 x5 x6 (by omega) hy i8 i9 i10 hm y5 (fun h2 kn2 cu2 p2 W2 e2 ku2 kl2 hF2 hI2 hk2 hs2 hO2 => ⟨_, rfl, by split <;> omega, ?_⟩)⟩
  have o1 : ∀ q, (q < S + 40 ∨ S + 491 + 24 * n ≤ q) → h2 q = h1 q := fun q a => hO2 q (by omega)
  refine hp y hy rfl h2 C1 T1 G1 P1 B1 kn2 ⟨ws, we, nw, nxt, hd, dr, D, so, ch, cu2, wy, wg, p2, W2, e2, ku2, kl2, vu, vl, ⟨(o1 S (by omega)).trans x1, x2.ofq (fun q a b => o1 q (by omega)), x3.ofq (fun q a b => o1 q (by omega)), x4.ofq (fun q a b => o1 q (by omega)), x5.ofq (fun q a b => o1 q (by omega)), x6.ofq (fun q a b => o1 q (by omega)), hF2⟩, ⟨y1, y2, y3, y4, hI2, ?_⟩⟩ hs2 (hO1.tr (hO2.mono (by omega) (by omega)))
  rcases y6 with z | ⟨z, z1, z2, z3, z4⟩
  · exact Or.inl z
  · exact Or.inr ⟨z, by omega, z2, z3, z4⟩
end SS2
