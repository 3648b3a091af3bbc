/-! Forecast: foretelling -/
def Kb : Nat → Nat
  | 0 => 1000000000000000000
  | y + 1 => Kb y * 10 ^ 85
theorem Kb_a : ∀ y, y < 11 → Kb y * 10 ^ 85 * 6000 < 1000000000 ^ 112 := by decide +kernel
theorem Kb_b : ∀ y, y < 12 → Kb y * 6000000 < 1000000000 ^ 112 := by decide +kernel
abbrev FcAt (h : xHp) (F n m wt et ft kn cu : Nat) (wy wg : Int32) (A B : Nat → Nat) (p : Nat → Nat → Nat) (W : Nat → Nat) (e : Nat → Nat → Nat) (ku kl : Nat → Nat) (w : Nat → Int) (vu vl : Nat) : Prop :=
  h F = some (fcF F n m wt et ft kn cu wy wg) ∧ FcS h F n ∧ h (F + 1) = some (xna 6 A) ∧ h (F + 2) = some (xna 6 B) ∧ FcD h F n p W e ku kl ∧ FcW h F n w vu vl
abbrev rowOK (n : Nat) (p : Nat → Nat → Nat) (W : Nat → Nat) (e : Nat → Nat → Nat) (ku kl : Nat → Nat) (y : Nat) (P : Nat → Nat) (D : Nat) : Prop := W y = pw (e y) 168 ∧ eqf n (p y) (W y) P D ∧ W y ≤ Kb y ∧ ∀ s, s < n → lowT (P s) D (ku (y * 6 + s)) (kl (y * 6 + s)) ∧ ku (y * 6 + s) < 2 ^ 600 ∧ kl (y * 6 + s) < 2 ^ 600
abbrev trsOK (n : Nat) (w : Tr) : Prop := ∀ y, y < 11 → w.1 y ≤ 12 ∧ trOK n w.2.1 w.2.2.1 w.2.2.2.1 w.2.2.2.2 y (w.1 y)
abbrev movOK (n : Nat) (P S : Nat → Nat) : Prop := shOK n P S ∧ ∀ f, f < n → S f = sm (fun t => P (f * 6 + t)) n
theorem fcs_ok {n : Nat} {A B : Nat → Nat} {w v : Tr} {P S : Nat → Nat} (hn : 2 ≤ n ∧ n ≤ 6) (hs : stOK n A B) (hw : trsOK n w) (hv : trsOK n v) (hm : movOK n P S) : ∀ y, y < 12 → fv n (fcs n A B w v P S y).1 (fcs n A B w v P S y).2 ∧ (fcs n A B w v P S y).2 ≤ Kb y
  | 0, _ => by
    have hp := prd_pos (B := B) (n := n) (fun s hs' => (hs s hs').1)
    refine ⟨⟨hp, ?_⟩, ?_⟩
    · show sm (fun s => prd B n / B s * A s) n ≤ 6 * prd B n
      have h1 : sm (fun s => prd B n / B s * A s) n ≤ sm (fun _ => 1 * prd B n) n := sm_le_sm fun s hs' => by
        obtain ⟨a, b, c⟩ := hs s hs'
        have h2 : prd B n / B s * A s ≤ prd B n / B s * B s := Nat.mul_le_mul_left _ c
        have h3 := Nat.div_mul_le_self (prd B n) (B s)
        omega
      rw [sm_mul] at h1
      have h2 : ∀ k, sm (fun _ => 1) k = k := by
        intro k
        induction k with
        | zero => rfl
        | succ k ih => show sm (fun _ => 1) k + 1 = _; rw [ih]
      rw [h2] at h1
      exact Nat.le_trans h1 (Nat.mul_le_mul_right _ hn.2)
    · show prd B n ≤ _
      have h1 := prd_le (B := B) (M := 1000) (n := n) (fun s hs' => (hs s hs').2.1)
      have h2 : 1000 ^ n ≤ 1000 ^ 6 := Nat.pow_le_pow_right (by decide) hn.2
      exact Nat.le_trans h1 h2
  | y + 1, hy => by
    obtain ⟨f1, f2⟩ := fcs_ok hn hs hw hv hm y (by omega)
    obtain ⟨w1, w2⟩ := hw y (by omega)
    obtain ⟨v1, v2⟩ := hv y (by omega)
    have g1 := tr_fv f1 w2
    have hQ := prd_pos (B := S) (n := n) (fun f hf => (hm.1 f hf).1)
    have g2 : fv n (fun t => mvs (trP w.2.1 w.2.2.1 w.2.2.2.1 w.2.2.2.2 y (fcs n A B w v P S y).1 (w.1 y)) S P (prd S n) t n) (trD w.2.2.2.2 y (fcs n A B w v P S y).2 (w.1 y) * prd S n) := by
      refine ⟨Nat.mul_pos g1.1 hQ, ?_⟩
      rw [sm_mvs hm.2 (fun f hf _ => prd_dvd hf)]
      have := Nat.mul_le_mul_right (prd S n) g1.2
      rw [Nat.mul_assoc] at this
      exact this
    refine ⟨tr_fv g2 v2, ?_⟩
    have b1 := trD_le (y := y) (D := (fcs n A B w v P S y).2) (B := w.2.2.2.2) (k := w.1 y) (fun i hi => (w2 i hi).2.2.2.2.2)
    have b2 := prd_le (B := S) (M := 110) (n := n) (fun f hf => (hm.1 f hf).2.1)
    have b3 := trD_le (y := y) (D := trD w.2.2.2.2 y (fcs n A B w v P S y).2 (w.1 y) * prd S n) (B := v.2.2.2.2) (k := v.1 y) (fun i hi => (v2 i hi).2.2.2.2.2)
    show trD v.2.2.2.2 y (trD w.2.2.2.2 y (fcs n A B w v P S y).2 (w.1 y) * prd S n) (v.1 y) ≤ Kb y * 10 ^ 85
    have c1 : (1000 : Nat) ^ w.1 y ≤ 1000 ^ 12 := Nat.pow_le_pow_right (by decide) w1
    have c2 : (1000 : Nat) ^ v.1 y ≤ 1000 ^ 12 := Nat.pow_le_pow_right (by decide) v1
    have c3 : (110 : Nat) ^ n ≤ 110 ^ 6 := Nat.pow_le_pow_right (by decide) hn.2
    calc trD v.2.2.2.2 y (trD w.2.2.2.2 y (fcs n A B w v P S y).2 (w.1 y) * prd S n) (v.1 y) ≤ _ := b3
      _ ≤ (Kb y * 1000 ^ 12 * 110 ^ 6) * 1000 ^ 12 := Nat.mul_le_mul (Nat.mul_le_mul (Nat.le_trans b1 (Nat.mul_le_mul f2 c1)) (Nat.le_trans b2 c3)) c2
      _ = Kb y * (1000 ^ 12 * 110 ^ 6 * 1000 ^ 12) := by rw [Nat.mul_assoc, Nat.mul_assoc, Nat.mul_assoc]
      _ ≤ Kb y * 10 ^ 85 := Nat.mul_le_mul_left _ (by decide +kernel)
theorem lowOk.T {v W u l : Nat} (h : lowOk v W u l) : lowT v W u l := ⟨h.1, h.2.1, h.2.2.1⟩
section FOR2
variable {g : xG} {post : xPost} {h : xHp} {nx : Nat}
theorem c_keep {F n m wt et ft kn cu y vu vl : Nat} {wy wg : Int32} {A B : Nat → Nat} {p : Nat → Nat → Nat} {W : Nat → Nat} {e : Nat → Nat → Nat} {ku kl : Nat → Nat} {w : Nat → Int} (hn : 2 ≤ n ∧ n ≤ 6) (hF : FcAt h F n m wt et ft kn cu wy wg A B p W e ku kl w vu vl) (hy : y < 12) (hW : W y = pw (e y) 168)
    (hp1 : ∀ h' ku' kl', FcAt h' F n m wt et ft kn cu wy wg A B p W e ku' kl' w vu vl → (∀ s, s < n → lowT (p y s) (W y) (ku' (y * 6 + s)) (kl' (y * 6 + s)) ∧ ku' (y * 6 + s) < 2 ^ 600 ∧ kl' (y * 6 + s) < 2 ^ 600) → (∀ i, (i < y * 6 ∨ y * 6 + 6 ≤ i) → ku' i = ku i ∧ kl' i = kl i) → Off F (451 + 24 * n) h h' → post (some (.int (nI 1))) h' nx)
    (hp0 : ∀ h' ku' kl', FcAt h' F n m wt et ft kn cu wy wg A B p W e ku' kl' w vu vl → lng n (p y) (W y) → (∀ i, (i < y * 6 ∨ y * 6 + 6 ≤ i) → ku' i = ku i ∧ kl' i = kl i) → Off F (451 + 24 * n) h h' → post (some (.int (nI 0))) h' nx) : Ct g M_X1_keep [.ref F, .int (nI y)] h nx post := by
  have l1 := rowA_lo (F := F) (n := n) (y := y)
  have l2 := rowA_hi (F := F) (n := n) hy
  have main : ∀ (d i : Nat) (ku' kl' : Nat → Nat) (h' : xHp), n - i = d → i ≤ n → FcAt h' F n m wt et ft kn cu wy wg A B p W e ku' kl' w vu vl → (∀ s, s < i → lowT (p y s) (W y) (ku' (y * 6 + s)) (kl' (y * 6 + s)) ∧ ku' (y * 6 + s) < 2 ^ 600 ∧ kl' (y * 6 + s) < 2 ^ 600) → (∀ i, (i < y * 6 ∨ y * 6 + 6 ≤ i) → ku' i = ku i ∧ kl' i = kl i) → Off F (451 + 24 * n) h h' → Blk g M_X1_keep post 2 [(0, .ref F), (1, .int (nI y)), (2, .int (nI i))] [] h' nx 0 0 := by
    intro d
    induction d with
    | zero =>
      intro i ku' kl' h' hd hi hF' hs hk hO
      have hin : i = n := by omega
      subst hin
      exact v_X1_keep_2 ⟨_, _, _, _, _, _, _, _, _, _, _, _, _, _, _, _, _, _, hF'.1, ⟨by omega, by omega⟩, fun _ => hp1 h' ku' kl' hF' hs hk hO, fun q => absurd q (by omega)⟩
    | succ d ih =>
      intro i ku' kl' h' hd hi hF' hs hk hO
      obtain ⟨fO, fS, fA, fB, fD, fW⟩ := id hF'
      obtain ⟨⟨G, a1, a2⟩, ⟨G2, b1, b2⟩, c⟩ := id fS
      obtain ⟨d1, d2, ⟨Z, d3⟩, ⟨su, sl, d4⟩⟩ := id fD
      have hR := d1 y hy
      have hR2 : RowAt h' (rowA F n y) n (p y) (pw (e y) 168) (e y) := by rw [← hW]; exact hR
      have hB := hR.2.2.2.1 i (by omega)
      refine v_X1_keep_2 ⟨_, _, _, _, _, _, _, _, _, _, _, _, _, _, _, _, _, _, fO, ⟨by omega, by omega⟩, fun q => absurd q (by omega), fun _ => ⟨_, _, a1, _, by omega, by decide, a2 y hy, _, _, _, hR.2.1, c_has hR (by omega) ⟨_, rfl, _, _, _, _, _, _, _, _, _, _, _, _, _, _, _, _, _, _, fO, _, _, a1, _, by omega, by decide, a2 y hy, _, _, d4.1, ?_⟩⟩⟩
      refine c_setLowest d4 hB hR2 (by omega) (by omega) hB.lt (fun h1 u l hF1 hlow hO1 => ?_)
      have o1 : ∀ q, (q < F + 438 + 24 * n ∨ F + 443 + 24 * n ≤ q) → h1 q = h' q := fun q hq => hO1 q (by omega)
      have fO1 := (o1 F (by omega)).trans fO
      have fS1 : FcS h1 F n := fS.ofq (fun q hq => o1 q (by omega))
      have fD1 := fD.scr hO1 hF1
      have fF1 : FcAt h1 F n m wt et ft kn cu wy wg A B p W e ku' kl' w vu vl := ⟨fO1, fS1, (o1 _ (by omega)).trans fA, (o1 _ (by omega)).trans fB, fD1, fW.ofq (fun q a b => o1 q (by omega))⟩
      have hO2 : Off F (451 + 24 * n) h h1 := hO.tr (hO1.mono (by omega) (by omega))
      rw [← hW] at hlow
      refine ⟨rfl, _, _, _, _, _, _, _, _, _, _, _, _, _, _, _, _, _, _, fO1, _, _, hF1.1, c_isBelow hF1 fS1.2.2 (fun hlt => ⟨1, rfl, by decide, fun _ => ?_, fun q => absurd q (by decide)⟩) (fun hnl => ⟨0, rfl, by decide, fun q => absurd rfl q, fun _ => hp0 h1 ku' kl' fF1 (lng_mk (show i < n by omega) hlow.T hnl) hk hO2⟩)⟩
      obtain ⟨⟨G3, a3, a4⟩, ⟨G4, b3, b4⟩, c3⟩ := id fS1
      have hK := fD1.2.1 (y * 6 + i) (by omega)
      have h600 : (2 : Nat) ^ 600 < 1000000000 ^ 21 := by decide +kernel
      refine ⟨_, _, _, _, _, _, _, _, _, _, _, _, _, _, _, _, _, _, fO1, _, _, b3, _, by omega, by decide, b4 (y * 6 + i) (by omega), _, _, hK.1, c_fcopy hK hF1 (by omega) (Nat.lt_trans hlt.1 h600) (Nat.lt_trans hlt.2 h600) (fun h2 hF2 hO3 => ⟨rfl, ?_⟩)⟩
      have o2 : ∀ q, (q < F + 65 + 24 * n + 5 * (y * 6 + i) ∨ F + 70 + 24 * n + 5 * (y * 6 + i) ≤ q) → h2 q = h1 q := fun q hq => hO3 q (by omega)
      refine ih (i + 1) _ _ h2 (by omega) (by omega) ⟨(o2 F (by omega)).trans fO1, fS1.ofq (fun q hq => o2 q (by omega)), (o2 _ (by omega)).trans fF1.2.2.1, (o2 _ (by omega)).trans fF1.2.2.2.1, fD1.kept (by omega) hO3 hF2, fF1.2.2.2.2.2.ofq (fun q a b => o2 q (by omega))⟩ (fun s hs' => ?_) (fun j hj => ?_) (hO2.tr (hO3.mono (by omega) (by omega)))
      · by_cases z : s = i
        · subst z; rw [up_s, up_s]; exact ⟨hlow.T, hlt⟩
        · rw [up_n (by omega), up_n (by omega)]; exact hs s (by omega)
      · rw [up_n (by omega), up_n (by omega)]; exact hk j hj
  exact Ct.of (by decide +kernel) (Nat.le_of_ble_eq_true rfl) (v_X1_keep_0 (main n 0 ku kl h rfl (Nat.zero_le _) hF (fun s hs => absurd hs (by omega)) (fun i _ => ⟨rfl, rfl⟩) Off.rf))
theorem c_forget {F n m wt et ft kn cu y vu vl : Nat} {wy wg : Int32} {A B : Nat → Nat} {p : Nat → Nat → Nat} {W : Nat → Nat} {e : Nat → Nat → Nat} {ku kl : Nat → Nat} {w : Nat → Int} (hF : FcAt h F n m wt et ft kn cu wy wg A B p W e ku kl w vu vl) (hk : kn ≤ 12) (hc : cu ≤ 12) (hy : y ≤ 12) (hp : ∀ h', FcAt h' F n m wt et ft (min kn y) (if cu < y then cu else 12) (-1) wg A B p W e ku kl w vu vl → Off F (451 + 24 * n) h h' → post none h' nx) : Ct g M_X1_forget [.ref F, .int (nI y)] h nx post := by
  obtain ⟨fO, fS, fA, fB, fD, fW⟩ := hF
  have go : ∀ E, FcS (xup h F E) F n ∧ (xup h F E) (F + 1) = some (xna 6 A) ∧ (xup h F E) (F + 2) = some (xna 6 B) ∧ FcD (xup h F E) F n p W e ku kl ∧ FcW (xup h F E) F n w vu vl := fun E => ⟨fS.ofq (fun q hq => xup_n (by omega)), (xup_n (by omega)).trans fA, (xup_n (by omega)).trans fB, fD.ofq (fun q a b c => xup_n (by omega)), fW.ofq (fun q a b => xup_n (by omega))⟩
  refine Ct.of (by decide +kernel) (Nat.le_of_ble_eq_true rfl) (v_X1_forget_0 ⟨_, _, _, _, _, _, _, _, _, _, _, _, _, _, _, _, _, _, fO, ⟨by omega, by omega⟩, ⟨by omega, by omega⟩, fun q => ?_, fun q => ?_⟩)
  · rw [if_pos q] at hp
    exact hp _ ⟨xup_s _ _ _, go _⟩ (Off.rf.up (by omega) (by omega))
  · rw [if_neg (by omega)] at hp
    exact hp _ ⟨xup_s _ _ _, go _⟩ (Off.rf.up (by omega) (by omega))
theorem c_fbegin {F n m wt et ft kn cu s a b vu vl : Nat} {wy wg : Int32} {A B : Nat → Nat} {p : Nat → Nat → Nat} {W : Nat → Nat} {e : Nat → Nat → Nat} {ku kl : Nat → Nat} {w : Nat → Int} (hF : FcAt h F n m wt et ft kn cu wy wg A B p W e ku kl w vu vl) (hk : kn ≤ 12) (hc : cu ≤ 12) (hft : ft ≤ 1) (hs : s < 6) (hp : ∀ h', FcAt h' F n m wt et 1 0 12 (-1) wg (va_up (if ft = 0 then va_up A 0 0 else A) s a) (va_up B s b) p W e ku kl w vu vl → Off F (451 + 24 * n) h h' → post none h' nx) : Ct g M_X1_begin [.ref F, .int (nI s), .int (nI a), .int (nI b)] h nx post := by
  obtain ⟨fO, fS, fA, fB, fD, fW⟩ := id hF
  refine Ct.of (by decide +kernel) (Nat.le_of_ble_eq_true rfl) (v_X1_begin_0 ⟨_, _, _, _, _, _, _, _, _, _, _, _, _, _, _, _, _, _, fO, by omega, fun q => ⟨_, _, fA, hs, by decide, _, _, fB, by omega, hs, by decide, ?_⟩, fun q => ⟨_, _, fA, by decide, by decide, hs, by decide, _, _, fB, by omega, hs, by decide, ?_⟩⟩)
  · have hft1 : ft = 1 := by omega
    subst hft1
    rw [if_neg (by decide)] at hp
    refine c_forget (A := va_up A s a) (B := va_up B s b) ⟨(xup_n (by omega)).trans ((xup_n (by omega)).trans fO), fS.ofq (fun q hq => (xup_n (by omega)).trans (xup_n (by omega))), (xup_n (by omega)).trans (xup_s _ _ _), xup_s _ _ _, fD.ofq (fun q a b c => (xup_n (by omega)).trans (xup_n (by omega))), fW.ofq (fun q a b => (xup_n (by omega)).trans (xup_n (by omega)))⟩ hk hc (by decide) (fun h' hF' hO => ⟨rfl, hp h' ?_ (((Off.rf.up (by omega) (by omega)).up (by omega) (by omega)).tr hO)⟩)
    rw [Nat.min_eq_right (Nat.zero_le _), if_neg (by omega)] at hF'
    exact hF'
  · rw [if_pos q] at hp
    refine c_forget (A := va_up (va_up A 0 0) s a) (B := va_up B s b) ⟨(xup_n (by omega)).trans ((xup_n (by omega)).trans (xup_s _ _ _)), fS.ofq (fun q hq => (xup_n (by omega)).trans ((xup_n (by omega)).trans (xup_n (by omega)))), (xup_n (by omega)).trans (xup_s _ _ _), xup_s _ _ _, fD.ofq (fun q a b c => (xup_n (by omega)).trans ((xup_n (by omega)).trans (xup_n (by omega)))), fW.ofq (fun q a b => (xup_n (by omega)).trans ((xup_n (by omega)).trans (xup_n (by omega))))⟩ hk hc (by decide) (fun h' hF' hO => ⟨rfl, hp h' ?_ ((((Off.rf.up (by omega) (by omega)).up (by omega) (by omega)).up (by omega) (by omega)).tr hO)⟩)
    rw [Nat.min_eq_right (Nat.zero_le _), if_neg (by omega)] at hF'
    exact hF'
end FOR2
