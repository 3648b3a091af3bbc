/-! StateShares: what is told to it -/
def trU (w : Tr) (y f t a b : Nat) : Tr := (va_up w.1 y (w.1 y + 1), va_up w.2.1 (y * 12 + w.1 y) f, va_up w.2.2.1 (y * 12 + w.1 y) t, va_up w.2.2.2.1 (y * 12 + w.1 y) a, va_up w.2.2.2.2 (y * 12 + w.1 y) b)
theorem trP_same {F T A B F' T' A' B' P : Nat → Nat} {y : Nat} : ∀ {k : Nat}, (∀ i, i < k → F' (y * 12 + i) = F (y * 12 + i) ∧ T' (y * 12 + i) = T (y * 12 + i) ∧ A' (y * 12 + i) = A (y * 12 + i) ∧ B' (y * 12 + i) = B (y * 12 + i)) → trP F' T' A' B' y P k = trP F T A B y P k
  | 0, _ => rfl
  | k + 1, h => by
    obtain ⟨h1, h2, h3, h4⟩ := h k (by omega)
    show trf _ _ _ _ (trP F' T' A' B' y P k) = trf _ _ _ _ (trP F T A B y P k)
    rw [h1, h2, h3, h4, trP_same (fun i hi => h i (by omega))]
theorem trD_same {B B' : Nat → Nat} {y D : Nat} : ∀ {k : Nat}, (∀ i, i < k → B' (y * 12 + i) = B (y * 12 + i)) → trD B' y D k = trD B y D k
  | 0, _ => rfl
  | k + 1, h => by
    show trD B' y D k * B' (y * 12 + k) = trD B y D k * B (y * 12 + k)
    rw [h k (by omega), trD_same (fun i hi => h i (by omega))]
theorem trU_at {w : Tr} {y f t a b z i : Nat} (hz : ¬ z = y) (hi : i < 12) (hy : w.1 y < 12) : (trU w y f t a b).2.1 (z * 12 + i) = w.2.1 (z * 12 + i) ∧ (trU w y f t a b).2.2.1 (z * 12 + i) = w.2.2.1 (z * 12 + i) ∧ (trU w y f t a b).2.2.2.1 (z * 12 + i) = w.2.2.2.1 (z * 12 + i) ∧ (trU w y f t a b).2.2.2.2 (z * 12 + i) = w.2.2.2.2 (z * 12 + i) :=
  ⟨up_n (by omega), up_n (by omega), up_n (by omega), up_n (by omega)⟩
theorem trU_ok {n : Nat} {w : Tr} {y f t a b : Nat} (hw : trsOK n w) (hy : y < 11) (hN : w.1 y < 12) (hf : f < n) (ht : t < n) (hft : f ≠ t) (hab : a ≤ b ∧ 0 < b ∧ b ≤ 1000) : trsOK n (trU w y f t a b) := by
  intro z hz
  obtain ⟨w1, w2⟩ := hw z hz
  by_cases q : z = y
  · subst q
    refine ⟨by show va_up w.1 z (w.1 z + 1) z ≤ 12; rw [up_s]; omega, ?_⟩
    show trOK n _ _ _ _ z (va_up w.1 z (w.1 z + 1) z)
    rw [up_s]
    intro i hi
    by_cases e : i = w.1 z
    · subst e
      show va_up w.2.1 _ f _ < n ∧ va_up w.2.2.1 _ t _ < n ∧ va_up w.2.1 _ f _ ≠ va_up w.2.2.1 _ t _ ∧ va_up w.2.2.2.1 _ a _ ≤ va_up w.2.2.2.2 _ b _ ∧ 0 < va_up w.2.2.2.2 _ b _ ∧ va_up w.2.2.2.2 _ b _ ≤ 1000
      rw [up_s, up_s, up_s, up_s]
      exact ⟨hf, ht, hft, hab.1, hab.2.1, hab.2.2⟩
    · show va_up w.2.1 _ f _ < n ∧ va_up w.2.2.1 _ t _ < n ∧ va_up w.2.1 _ f _ ≠ va_up w.2.2.1 _ t _ ∧ va_up w.2.2.2.1 _ a _ ≤ va_up w.2.2.2.2 _ b _ ∧ 0 < va_up w.2.2.2.2 _ b _ ∧ va_up w.2.2.2.2 _ b _ ≤ 1000
      rw [up_n (by omega), up_n (by omega), up_n (by omega), up_n (by omega)]
      exact w2 i (by omega)
  · refine ⟨by show va_up w.1 y _ z ≤ 12; rw [up_n q]; exact w1, ?_⟩
    show trOK n _ _ _ _ z (va_up w.1 y (w.1 y + 1) z)
    rw [up_n q]
    intro i hi
    obtain ⟨e1, e2, e3, e4⟩ := trU_at (w := w) (f := f) (t := t) (a := a) (b := b) q (show i < 12 by omega) hN
    rw [e1, e2, e3, e4]
    exact w2 i hi
theorem TrsU {h h' : xHp} {t0 : Nat} {w : Tr} {y f t a b : Nat} {A' B' : Nat → Nat} (hy : y < 11) (hN : w.1 y < 12) (hw : ∀ z, z < 11 → w.1 z ≤ 12) (hab : a ≤ b ∧ 0 < b ∧ b ≤ 1000) (hr : ∀ y, y < 11 → ∀ i, i < w.1 y → A' (y * 12 + i) ≤ B' (y * 12 + i) ∧ 0 < B' (y * 12 + i) ∧ B' (y * 12 + i) ≤ 1000 ∧ w.2.2.2.1 (y * 12 + i) * B' (y * 12 + i) = A' (y * 12 + i) * w.2.2.2.2 (y * 12 + i)) (hT : TrAt h' t0 (va_up w.1 y (w.1 y + 1)) (va_up w.2.1 (y * 12 + w.1 y) f) (va_up w.2.2.1 (y * 12 + w.1 y) t) (va_up A' (y * 12 + w.1 y) (a / Nat.gcd a b)) (va_up B' (y * 12 + w.1 y) (b / Nat.gcd a b))) : TrsAt h' t0 (trU w y f t a b) := by
  refine ⟨_, _, hT, fun z hz i hi => ?_⟩
  have hg : 0 < Nat.gcd a b := Nat.gcd_pos_of_pos_right _ hab.2.1
  have hi : i < va_up w.1 y (w.1 y + 1) z := hi
  show va_up A' _ _ _ ≤ va_up B' _ _ _ ∧ 0 < va_up B' _ _ _ ∧ va_up B' _ _ _ ≤ 1000 ∧ va_up w.2.2.2.1 _ a _ * va_up B' _ _ _ = va_up A' _ _ _ * va_up w.2.2.2.2 _ b _
  by_cases q : z * 12 + i = y * 12 + w.1 y
  · rw [q, up_s, up_s, up_s, up_s]
    refine ⟨Nat.div_le_div_right hab.1, Nat.div_pos (Nat.gcd_le_right _ hab.2.1) hg, Nat.le_trans (Nat.div_le_self _ _) hab.2.2, ?_⟩
    obtain ⟨a1, ha1⟩ := Nat.gcd_dvd_left a b
    obtain ⟨b1, hb1⟩ := Nat.gcd_dvd_right a b
    have e1 : a / Nat.gcd a b = a1 := by
      have := Nat.mul_div_cancel_left a1 hg
      rw [← ha1] at this; exact this
    have e2 : b / Nat.gcd a b = b1 := by
      have := Nat.mul_div_cancel_left b1 hg
      rw [← hb1] at this; exact this
    rw [e1, e2]
    calc a * b1 = Nat.gcd a b * a1 * b1 := by rw [← ha1]
      _ = a1 * (Nat.gcd a b * b1) := by grind
      _ = a1 * b := by rw [← hb1]
  · rw [up_n q, up_n q, up_n q, up_n q]
    by_cases e : z = y
    · subst e
      rw [up_s] at hi
      exact hr z hz i (by omega)
    · rw [up_n e] at hi
      exact hr z hz i hi
theorem fcs_w {n : Nat} {A B : Nat → Nat} {w v : Tr} {P S : Nat → Nat} {y f t a b : Nat} (hw : ∀ z, z < 11 → w.1 z ≤ 12) (hN : w.1 y < 12) (hy : y < 11) : ∀ z, z ≤ y → fcs n A B (trU w y f t a b) v P S z = fcs n A B w v P S z
  | 0, _ => rfl
  | z + 1, hz => by
    have ih := fcs_w (n := n) (A := A) (B := B) (v := v) (P := P) (S := S) (f := f) (t := t) (a := a) (b := b) hw hN hy z (by omega)
    have eN : (trU w y f t a b).1 z = w.1 z := up_n (by omega)
    have w12 := hw z (by omega)
    have e1 : ∀ Q : Nat → Nat, trP (trU w y f t a b).2.1 (trU w y f t a b).2.2.1 (trU w y f t a b).2.2.2.1 (trU w y f t a b).2.2.2.2 z Q (w.1 z) = trP w.2.1 w.2.2.1 w.2.2.2.1 w.2.2.2.2 z Q (w.1 z) := fun Q => trP_same (fun i hi => trU_at (by omega) (by omega) hN)
    have e2 : ∀ Q : Nat, trD (trU w y f t a b).2.2.2.2 z Q (w.1 z) = trD w.2.2.2.2 z Q (w.1 z) := fun Q => trD_same (fun i hi => (trU_at (w := w) (f := f) (t := t) (a := a) (b := b) (by omega) (by omega) hN).2.2.2)
    show (_, _) = (_, _)
    rw [eN, ih, e1, e2]
theorem fcs_v {n : Nat} {A B : Nat → Nat} {w v : Tr} {P S : Nat → Nat} {y f t a b : Nat} (hw : ∀ z, z < 11 → v.1 z ≤ 12) (hN : v.1 y < 12) (hy : y < 11) : ∀ z, z ≤ y → fcs n A B w (trU v y f t a b) P S z = fcs n A B w v P S z
  | 0, _ => rfl
  | z + 1, hz => by
    have ih := fcs_v (n := n) (A := A) (B := B) (w := w) (P := P) (S := S) (f := f) (t := t) (a := a) (b := b) hw hN hy z (by omega)
    have eN : (trU v y f t a b).1 z = v.1 z := up_n (by omega)
    have w12 := hw z (by omega)
    have e1 : ∀ Q : Nat → Nat, trP (trU v y f t a b).2.1 (trU v y f t a b).2.2.1 (trU v y f t a b).2.2.2.1 (trU v y f t a b).2.2.2.2 z Q (v.1 z) = trP v.2.1 v.2.2.1 v.2.2.2.1 v.2.2.2.2 z Q (v.1 z) := fun Q => trP_same (fun i hi => trU_at (by omega) (by omega) hN)
    have e2 : ∀ Q : Nat, trD (trU v y f t a b).2.2.2.2 z Q (v.1 z) = trD v.2.2.2.2 z Q (v.1 z) := fun Q => trD_same (fun i hi => (trU_at (w := v) (f := f) (t := t) (a := a) (b := b) (by omega) (by omega) hN).2.2.2)
    show (_, _) = (_, _)
    rw [eN, ih, e1, e2]
/-- what stands up to a year, when nothing changes up to it -/
theorem FcI_cut {n kn cu k : Nat} {A B A' B' : Nat → Nat} {wk ev wk' ev' : Tr} {P S : Nat → Nat} {p : Nat → Nat → Nat} {W : Nat → Nat} {e : Nat → Nat → Nat} {ku kl : Nat → Nat} (hk : k ≤ 12) (h : ∀ z, z < k → fcs n A' B' wk' ev' P S z = fcs n A B wk ev P S z) (i : FcI n A B wk ev P S kn cu p W e ku kl) : FcI n A' B' wk' ev' P S (min kn k) (if cu < k then cu else 12) p W e ku kl := by
  obtain ⟨i1, i2, i3⟩ := i
  refine ⟨by omega, fun y hy => ?_, ?_⟩
  · rw [h y (by omega)]; exact i2 y (by omega)
  · by_cases q : cu < k
    · rw [if_pos q]
      rcases i3 with z | ⟨z1, z2, z3⟩
      · omega
      · right
        rw [h cu q]
        exact ⟨by omega, z2, z3⟩
    · rw [if_neg q]; exact Or.inl rfl
section SS5
variable {g : xG} {post : xPost} {h : xHp} {nx : Nat}
def stA (ft : Nat) (A : Nat → Nat) (s a : Nat) : Nat → Nat := va_up (if ft = 0 then va_up A 0 0 else A) s a
theorem c_start {S n len lm ft : Nat} {mk : Nat → Option Nat} {kd tx A Bs : Nat → Nat} {R : Rl} {wk ev : Tr} {w : Nat → Int} {a : Int32} {xa xb : Int64} (hI : ssI n mk kd tx len R lm ft A Bs wk ev w) (hX : Ss h S n mk kd tx len R lm ft A Bs wk ev w) (hp1 : ∀ s u v, s < n → u ≤ v → 0 < v → v ≤ 1000 → a = nI s → xa = lN u → xb = lN v → ∀ h', Ss h' S n mk kd tx len R lm 1 (stA ft A s u) (va_up Bs s v) wk ev w → Off S (491 + 24 * n) h h' → post (some (.int (nI 1))) h' nx) (hp0 : (∀ s u v, s < n → u ≤ v → 0 < v → v ≤ 1000 → a = nI s → xa = lN u → ¬ xb = lN v) → post (some (.int (nI 0))) h nx) : Ct g M_X9_start [.ref S, .int a, .long xa, .long xb] h nx post := by
  obtain ⟨old, gr, C, T, G, P, B, kn, hG, hX⟩ := hX
  obtain ⟨ws, we, nw, nxt, hd, dr, D, so, ch, cu, wy, wg, p, W, e, ku, kl, vu, vl, ⟨x1, x2, x3, x4, x5, x6, x7⟩, ⟨y1, y2, y3, y4, y5, y6⟩⟩ := id hX
  obtain ⟨i1, i2, i3, i4, i5, i6, i7, i8, i9, i10, i11⟩ := id hI
  refine Ct.of (by decide +kernel) (Nat.le_of_ble_eq_true rfl) (v_X9_start_0 ⟨_, _, _, _, _, _, _, _, x1, c_isState x1 i1.2 (fun s hs ha => ⟨1, rfl, by decide, fun q => absurd q (by decide), fun _ => c_isFraction (fun u v huv hv0 hv hxa hxb => ⟨1, rfl, by decide, fun _ => ⟨_, _, _, _, _, _, _, _, x1, _, _, _, _, _, _, _, _, _, _, _, _, _, _, _, _, _, _, x7.1, ?_⟩, fun q => absurd q (by decide)⟩) (fun hx => ⟨0, rfl, by decide, fun q => absurd rfl q, fun _ => hp0 (fun s u v _ h2 h3 h4 _ h6 h7 => hx u v h2 h3 h4 h6 h7)⟩)⟩) (fun ha => ⟨0, rfl, by decide, fun _ => hp0 (fun s u v hs _ _ _ ha2 _ _ => ha s hs ha2), fun q => absurd rfl q⟩)⟩)
  subst ha; subst hxa; subst hxb
  rw [lN_i, lN_i]
  have k12 := y5.1
  refine c_fbegin x7 k12 (by have := y5.2.2; omega) i7 (by omega) (fun h1 hF1 hO1 => ⟨rfl, hp1 s u v hs huv hv0 hv rfl rfl rfl h1 ⟨old, gr, C, T, G, P, B, 0, hG, ?_⟩ (hO1.mono (by omega) (by omega))⟩)
  have o1 : ∀ q, (q < S + 40 ∨ S + 491 + 24 * n ≤ q) → h1 q = h q := fun q a => hO1 q (by omega)
  exact ⟨ws, we, nw, nxt, hd, dr, D, so, ch, 12, -1, wg, p, W, e, ku, kl, vu, vl, ⟨(o1 S (by omega)).trans x1, x2.ofq (fun q a b => o1 q (by omega)), x3.ofq (fun q a b => o1 q (by omega)), x4.ofq (fun q a b => o1 q (by omega)), x5.ofq (fun q a b => o1 q (by omega)), x6.ofq (fun q a b => o1 q (by omega)), hF1⟩, ⟨y1, y2, y3, y4, ⟨by decide, fun y hy => absurd hy (by omega), Or.inl rfl⟩, Or.inl rfl⟩⟩
theorem i64_w {x : Int64} (h : x.toInt.natAbs ≤ 1000000) : x.toInt32 = iW x.toInt := by
  refine Int32.toInt_inj.mp ?_
  rw [iW_toInt h, Int64.toInt_toInt32]
  exact Int.bmod_eq_of_le (by omega) (by omega)
theorem c_part2 {S n len lm ft : Nat} {mk : Nat → Option Nat} {kd tx A Bs : Nat → Nat} {R : Rl} {wk ev : Tr} {w : Nat → Int} {a : Int32} {x : Int64} (hI : ssI n mk kd tx len R lm ft A Bs wk ev w) (hX : Ss h S n mk kd tx len R lm ft A Bs wk ev w) (hp1 : ∀ s, s < n → a = nI s → x.toInt.natAbs ≤ 1000000 → ∀ h', Ss h' S n mk kd tx len R lm ft A Bs wk ev (va_up w s x.toInt) → Off S (491 + 24 * n) h h' → post (some (.int (nI 1))) h' nx) (hp0 : (∀ s, s < n → a = nI s → ¬ x.toInt.natAbs ≤ 1000000) → post (some (.int (nI 0))) h nx) : Ct g M_X9_part2 [.ref S, .int a, .long x] h nx post := by
  obtain ⟨old, gr, C, T, G, P, B, kn, hG, hX⟩ := hX
  obtain ⟨ws, we, nw, nxt, hd, dr, D, so, ch, cu, wy, wg, p, W, e, ku, kl, vu, vl, ⟨x1, x2, x3, x4, x5, x6, x7⟩, ⟨y1, y2, y3, y4, y5, y6⟩⟩ := id hX
  obtain ⟨i1, i2, i3, i4, i5, i6, i7, i8, i9, i10, i11⟩ := id hI
  have e1 : x < -1000000 ↔ x.toInt < -1000000 := by rw [Int64.lt_iff_toInt_lt]; exact Iff.rfl
  have e2 : x ≤ lN 1000000 ↔ x.toInt ≤ 1000000 := by rw [Int64.le_iff_toInt_le]; exact Iff.rfl
  refine Ct.of (by decide +kernel) (Nat.le_of_ble_eq_true rfl) (v_X9_part2_0 ⟨_, _, _, _, _, _, _, _, x1, c_isState x1 i1.2 (fun s hs ha => ⟨1, rfl, by decide, fun q => absurd q (by decide), fun _ => ⟨fun q => hp0 (fun _ _ _ => by have := e1.mp q; omega), fun q => ⟨fun q2 => ⟨_, _, _, _, _, _, _, _, x1, _, _, _, _, _, _, _, _, _, _, _, _, _, _, _, _, _, _, x7.1, ?_⟩, fun q2 => hp0 (fun _ _ _ => by
      intro z
      exact q2 (e2.mpr (by omega)))⟩⟩⟩) (fun ha => ⟨0, rfl, by decide, fun _ => hp0 (fun s hs ha2 => absurd ha2 (ha s hs)), fun q => absurd rfl q⟩)⟩)
  have hx : x.toInt.natAbs ≤ 1000000 := by
    have h1 := e2.mp q2
    have h2 : ¬ x.toInt < -1000000 := fun z => q (e1.mpr z)
    omega
  subst ha
  rw [i64_w hx]
  refine c_setWorth x7 (by omega) (fun h1 hF1 hO1 => ⟨rfl, hp1 s hs rfl hx h1 ⟨old, gr, C, T, G, P, B, kn, hG, ?_⟩ (hO1.mono (by omega) (by omega))⟩)
  have o1 : ∀ q, (q < S + 40 ∨ S + 491 + 24 * n ≤ q) → h1 q = h q := fun q a => hO1 q (by omega)
  exact ⟨ws, we, nw, nxt, hd, dr, D, so, ch, cu, -1, wg, p, W, e, ku, kl, vu, vl, ⟨(o1 S (by omega)).trans x1, x2.ofq (fun q a b => o1 q (by omega)), x3.ofq (fun q a b => o1 q (by omega)), x4.ofq (fun q a b => o1 q (by omega)), x5.ofq (fun q a b => o1 q (by omega)), x6.ofq (fun q a b => o1 q (by omega)), hF1⟩, ⟨y1, y2, y3, y4, y5, Or.inl rfl⟩⟩

theorem c_works {S n len lm ft : Nat} {mk : Nat → Option Nat} {kd tx A Bs : Nat → Nat} {R : Rl} {wk ev : Tr} {w : Nat → Int} {a b c : Int32} {xa xb : Int64} (hI : ssI n mk kd tx len R lm ft A Bs wk ev w) (hX : Ss h S n mk kd tx len R lm ft A Bs wk ev w) (hp1 : ∀ y f t u v, y < 11 → f < n → t < n → ¬ f = t → u ≤ v → 0 < v → v ≤ 1000 → a = nI y → b = nI f → c = nI t → xa = lN u → xb = lN v → wk.1 y < 12 → ∀ h', Ss h' S n mk kd tx len R lm ft A Bs (trU wk y f t u v) ev w → Off S (491 + 24 * n) h h' → post (some (.int (nI 1))) h' nx) (hp2 : ∀ y f t u v, y < 11 → f < n → t < n → ¬ f = t → u ≤ v → 0 < v → v ≤ 1000 → a = nI y → b = nI f → c = nI t → xa = lN u → xb = lN v → wk.1 y = 12 → post (some (.int (nI 0))) h nx) (hp0 : (∀ y f t u v, y < 11 → f < n → t < n → ¬ f = t → u ≤ v → 0 < v → v ≤ 1000 → a = nI y → b = nI f → c = nI t → xa = lN u → ¬ xb = lN v) → post (some (.int (nI 0))) h nx) : Ct g M_X9_works [.ref S, .int a, .int b, .int c, .long xa, .long xb] h nx post := by
  obtain ⟨old, gr, C, T, G, P, B, kn, hG, hX⟩ := hX
  obtain ⟨ws, we, nw, nxt, hd, dr, D, so, ch, cu, wy, wg, p, W, e, ku, kl, vu, vl, ⟨x1, x2, x3, x4, x5, x6, x7⟩, ⟨y1, y2, y3, y4, y5, y6⟩⟩ := id hX
  obtain ⟨i1, i2, i3, i4, i5, i6, i7, i8, i9, i10, i11⟩ := id hI
  obtain ⟨Aw, Bw, hTw, hTw2⟩ := id x5
  have hw12 : ∀ z, z < 11 → wk.1 z ≤ 12 := fun z hz => (i9 z hz).1
  refine Ct.of (by decide +kernel) (Nat.le_of_ble_eq_true rfl) (v_X9_works_0 ⟨_, _, _, _, _, _, _, _, x1, Ct.of (by decide +kernel) (Nat.le_of_ble_eq_true rfl) (v_X9_tell_0 (c_isYear (fun y hy ha => ⟨1, rfl, by decide, fun q => absurd q (by decide), fun _ => ⟨fun q => ⟨_, rfl, by decide, hp0 (fun y f t u v h1 h2 h3 h4 h5 h6 h7 e1 e2 e3 e4 e5 => absurd (e1.symm.trans q) (fun z => by have := (nI_eq (by omega) (by decide)).mp z; omega))⟩, fun q => ⟨_, _, _, _, _, _, _, _, x1, c_isState x1 i1.2 (fun f hf hb => ⟨1, rfl, by decide, fun q => absurd q (by decide), fun _ => ⟨_, _, _, _, _, _, _, _, x1, c_isState x1 i1.2 (fun t ht hc => ⟨1, rfl, by decide, fun q => absurd q (by decide), fun _ => ⟨fun q3 => ⟨_, rfl, by decide, hp0 (fun y f t u v h1 h2 h3 h4 h5 h6 h7 e1 e2 e3 e4 e5 => absurd (e2.symm.trans (q3.trans e3)) (fun z => h4 ((nI_eq (by omega) (by omega)).mp z)))⟩, fun q3 => c_isFraction (fun u v huv hv0 hv hxa hxb => ⟨1, rfl, by decide, fun q => absurd q (by decide), fun _ => ⟨_, _, _, _, _, hTw.1, ?_⟩⟩) (fun hx => ⟨0, rfl, by decide, fun _ => ⟨_, rfl, by decide, hp0 (fun y f t u v h1 h2 h3 h4 h5 h6 h7 e1 e2 e3 e4 e5 => hx u v h5 h6 h7 e4 e5)⟩, fun q => absurd rfl q⟩)⟩⟩) (fun hc => ⟨0, rfl, by decide, fun _ => ⟨_, rfl, by decide, hp0 (fun y f t u v h1 h2 h3 h4 h5 h6 h7 e1 e2 e3 e4 e5 => hc t h3 e3)⟩, fun q => absurd rfl q⟩)⟩⟩) (fun hb => ⟨0, rfl, by decide, fun _ => ⟨_, rfl, by decide, hp0 (fun y f t u v h1 h2 h3 h4 h5 h6 h7 e1 e2 e3 e4 e5 => hb f h2 e2)⟩, fun q => absurd rfl q⟩)⟩⟩⟩) (fun ha => ⟨0, rfl, by decide, fun _ => ⟨_, rfl, by decide, hp0 (fun y f t u v h1 h2 h3 h4 h5 h6 h7 e1 e2 e3 e4 e5 => ha y (by omega) e1)⟩, fun q => absurd rfl q⟩)))⟩)
  subst ha; subst hb; subst hc; subst hxa; subst hxb
  have hy11 : y < 11 := by
    rcases Nat.lt_or_ge y 11 with z | z
    · exact z
    · have : y = 11 := by omega
      subst this
      exact absurd rfl q
  have hft : ¬ f = t := fun z => q3 (by rw [z])
  rw [lN_i, lN_i]
  refine c_trAdd hTw hy (hw12 y hy11) ⟨huv, hv0, hv⟩ (fun hN h1 hT1 hO1 => ⟨1, rfl, by decide, fun _ => ?_, fun q => absurd q (by decide)⟩) (fun hN => ⟨0, rfl, by decide, fun q => absurd rfl q, fun _ => ⟨_, rfl, by decide, hp2 y f t u v hy11 hf ht hft huv hv0 hv rfl rfl rfl rfl rfl hN⟩⟩)
  have o0 : ∀ q, (q < S + 28 ∨ S + 28 + 6 ≤ q) → h1 q = h q := fun q a => hO1 q (by omega)
  have hF1 := x7.ofq (h' := h1) (fun q a b => o0 q (by omega))
  have k12 := y5.1
  refine ⟨_, _, _, _, _, _, _, _, (o0 S (by omega)).trans x1, _, _, _, _, _, _, _, _, _, _, _, _, _, _, _, _, _, _, hF1.1, ?_⟩
  rw [nI_add]
  refine c_forget hF1 k12 (by have := y5.2.2; omega) (by omega) (fun h2 hF2 hO2 => ⟨rfl, _, rfl, by decide, hp1 y f t u v hy11 hf ht hft huv hv0 hv rfl rfl rfl rfl rfl hN h2 ⟨old, gr, C, T, G, P, B, min kn (y + 1), hG, ?_⟩ ((hO1.mono (by omega) (by omega)).tr (hO2.mono (by omega) (by omega)))⟩)
  have o2 : ∀ q, (q < S + 40 ∨ S + 491 + 24 * n ≤ q) → h2 q = h1 q := fun q a => hO2 q (by omega)
  have o1 : ∀ q, (q < S + 28 ∨ S + 28 + 6 ≤ q) → (q < S + 40 ∨ S + 491 + 24 * n ≤ q) → h2 q = h q := fun q a b => (o2 q b).trans (o0 q a)
  have hT2 := TrsU (h := h) hy11 hN hw12 ⟨huv, hv0, hv⟩ hTw2 hT1
  exact ⟨ws, we, nw, nxt, hd, dr, D, so, ch, (if cu < y + 1 then cu else 12), -1, wg, p, W, e, ku, kl, vu, vl, ⟨(o1 S (by omega) (by omega)).trans x1, x2.ofq (fun q a b => o1 q (by omega) (by omega)), x3.ofq (fun q a b => o1 q (by omega) (by omega)), x4.ofq (fun q a b => o1 q (by omega) (by omega)), hT2.ofq (fun q a b => o2 q (by omega)), x6.ofq (fun q a b => o1 q (by omega) (by omega)), hF2⟩, ⟨y1, y2, y3, y4, FcI_cut (by omega) (fun z hz => fcs_w hw12 hN hy11 z (by omega)) y5, Or.inl rfl⟩⟩

theorem c_event {S n len lm ft : Nat} {mk : Nat → Option Nat} {kd tx A Bs : Nat → Nat} {R : Rl} {wk ev : Tr} {w : Nat → Int} {a b c : Int32} {xa xb : Int64} (hI : ssI n mk kd tx len R lm ft A Bs wk ev w) (hX : Ss h S n mk kd tx len R lm ft A Bs wk ev w) (hp1 : ∀ y f t u v, y < 11 → f < n → t < n → ¬ f = t → u ≤ v → 0 < v → v ≤ 1000 → a = nI y → b = nI f → c = nI t → xa = lN u → xb = lN v → ev.1 y < 12 → ∀ h', Ss h' S n mk kd tx len R lm ft A Bs wk (trU ev y f t u v) w → Off S (491 + 24 * n) h h' → post (some (.int (nI 1))) h' nx) (hp2 : ∀ y f t u v, y < 11 → f < n → t < n → ¬ f = t → u ≤ v → 0 < v → v ≤ 1000 → a = nI y → b = nI f → c = nI t → xa = lN u → xb = lN v → ev.1 y = 12 → post (some (.int (nI 0))) h nx) (hp0 : (∀ y f t u v, y < 11 → f < n → t < n → ¬ f = t → u ≤ v → 0 < v → v ≤ 1000 → a = nI y → b = nI f → c = nI t → xa = lN u → ¬ xb = lN v) → post (some (.int (nI 0))) h nx) : Ct g M_X9_event [.ref S, .int a, .int b, .int c, .long xa, .long xb] h nx post := by
  obtain ⟨old, gr, C, T, G, P, B, kn, hG, hX⟩ := hX
  obtain ⟨ws, we, nw, nxt, hd, dr, D, so, ch, cu, wy, wg, p, W, e, ku, kl, vu, vl, ⟨x1, x2, x3, x4, x5, x6, x7⟩, ⟨y1, y2, y3, y4, y5, y6⟩⟩ := id hX
  obtain ⟨i1, i2, i3, i4, i5, i6, i7, i8, i9, i10, i11⟩ := id hI
  obtain ⟨Aw, Bw, hTw, hTw2⟩ := id x6
  have hw12 : ∀ z, z < 11 → ev.1 z ≤ 12 := fun z hz => (i10 z hz).1
  refine Ct.of (by decide +kernel) (Nat.le_of_ble_eq_true rfl) (v_X9_event_0 ⟨_, _, _, _, _, _, _, _, x1, Ct.of (by decide +kernel) (Nat.le_of_ble_eq_true rfl) (v_X9_tell_0 (c_isYear (fun y hy ha => ⟨1, rfl, by decide, fun q => absurd q (by decide), fun _ => ⟨fun q => ⟨_, rfl, by decide, hp0 (fun y f t u v h1 h2 h3 h4 h5 h6 h7 e1 e2 e3 e4 e5 => absurd (e1.symm.trans q) (fun z => by have := (nI_eq (by omega) (by decide)).mp z; omega))⟩, fun q => ⟨_, _, _, _, _, _, _, _, x1, c_isState x1 i1.2 (fun f hf hb => ⟨1, rfl, by decide, fun q => absurd q (by decide), fun _ => ⟨_, _, _, _, _, _, _, _, x1, c_isState x1 i1.2 (fun t ht hc => ⟨1, rfl, by decide, fun q => absurd q (by decide), fun _ => ⟨fun q3 => ⟨_, rfl, by decide, hp0 (fun y f t u v h1 h2 h3 h4 h5 h6 h7 e1 e2 e3 e4 e5 => absurd (e2.symm.trans (q3.trans e3)) (fun z => h4 ((nI_eq (by omega) (by omega)).mp z)))⟩, fun q3 => c_isFraction (fun u v huv hv0 hv hxa hxb => ⟨1, rfl, by decide, fun q => absurd q (by decide), fun _ => ⟨_, _, _, _, _, hTw.1, ?_⟩⟩) (fun hx => ⟨0, rfl, by decide, fun _ => ⟨_, rfl, by decide, hp0 (fun y f t u v h1 h2 h3 h4 h5 h6 h7 e1 e2 e3 e4 e5 => hx u v h5 h6 h7 e4 e5)⟩, fun q => absurd rfl q⟩)⟩⟩) (fun hc => ⟨0, rfl, by decide, fun _ => ⟨_, rfl, by decide, hp0 (fun y f t u v h1 h2 h3 h4 h5 h6 h7 e1 e2 e3 e4 e5 => hc t h3 e3)⟩, fun q => absurd rfl q⟩)⟩⟩) (fun hb => ⟨0, rfl, by decide, fun _ => ⟨_, rfl, by decide, hp0 (fun y f t u v h1 h2 h3 h4 h5 h6 h7 e1 e2 e3 e4 e5 => hb f h2 e2)⟩, fun q => absurd rfl q⟩)⟩⟩⟩) (fun ha => ⟨0, rfl, by decide, fun _ => ⟨_, rfl, by decide, hp0 (fun y f t u v h1 h2 h3 h4 h5 h6 h7 e1 e2 e3 e4 e5 => ha y (by omega) e1)⟩, fun q => absurd rfl q⟩)))⟩)
  subst ha; subst hb; subst hc; subst hxa; subst hxb
  have hy11 : y < 11 := by
    rcases Nat.lt_or_ge y 11 with z | z
    · exact z
    · have : y = 11 := by omega
      subst this
      exact absurd rfl q
  have hft : ¬ f = t := fun z => q3 (by rw [z])
  rw [lN_i, lN_i]
  refine c_trAdd hTw hy (hw12 y hy11) ⟨huv, hv0, hv⟩ (fun hN h1 hT1 hO1 => ⟨1, rfl, by decide, fun _ => ?_, fun q => absurd q (by decide)⟩) (fun hN => ⟨0, rfl, by decide, fun q => absurd rfl q, fun _ => ⟨_, rfl, by decide, hp2 y f t u v hy11 hf ht hft huv hv0 hv rfl rfl rfl rfl rfl hN⟩⟩)
  have o0 : ∀ q, (q < S + 34 ∨ S + 34 + 6 ≤ q) → h1 q = h q := fun q a => hO1 q (by omega)
  have hF1 := x7.ofq (h' := h1) (fun q a b => o0 q (by omega))
  have k12 := y5.1
  refine ⟨_, _, _, _, _, _, _, _, (o0 S (by omega)).trans x1, _, _, _, _, _, _, _, _, _, _, _, _, _, _, _, _, _, _, hF1.1, ?_⟩
  rw [nI_add]
  refine c_forget hF1 k12 (by have := y5.2.2; omega) (by omega) (fun h2 hF2 hO2 => ⟨rfl, _, rfl, by decide, hp1 y f t u v hy11 hf ht hft huv hv0 hv rfl rfl rfl rfl rfl hN h2 ⟨old, gr, C, T, G, P, B, min kn (y + 1), hG, ?_⟩ ((hO1.mono (by omega) (by omega)).tr (hO2.mono (by omega) (by omega)))⟩)
  have o2 : ∀ q, (q < S + 40 ∨ S + 491 + 24 * n ≤ q) → h2 q = h1 q := fun q a => hO2 q (by omega)
  have o1 : ∀ q, (q < S + 34 ∨ S + 34 + 6 ≤ q) → (q < S + 40 ∨ S + 491 + 24 * n ≤ q) → h2 q = h q := fun q a b => (o2 q b).trans (o0 q a)
  have hT2 := TrsU (h := h) hy11 hN hw12 ⟨huv, hv0, hv⟩ hTw2 hT1
  exact ⟨ws, we, nw, nxt, hd, dr, D, so, ch, (if cu < y + 1 then cu else 12), -1, wg, p, W, e, ku, kl, vu, vl, ⟨(o1 S (by omega) (by omega)).trans x1, x2.ofq (fun q a b => o1 q (by omega) (by omega)), x3.ofq (fun q a b => o1 q (by omega) (by omega)), x4.ofq (fun q a b => o1 q (by omega) (by omega)), x5.ofq (fun q a b => o1 q (by omega) (by omega)), hT2.ofq (fun q a b => o2 q (by omega)), hF2⟩, ⟨y1, y2, y3, y4, FcI_cut (by omega) (fun z hz => fcs_v hw12 hN hy11 z (by omega)) y5, Or.inl rfl⟩⟩

end SS5
