/-! Forecast: foretelling, standing, answers -/
abbrev TrsAt (h : xHp) (t : Nat) (w : Tr) : Prop := ∃ A' B', TrAt h t w.1 w.2.1 w.2.2.1 A' B' ∧ ∀ y, y < 11 → ∀ i, i < w.1 y → A' (y * 12 + i) ≤ B' (y * 12 + i) ∧ 0 < B' (y * 12 + i) ∧ B' (y * 12 + i) ≤ 1000 ∧ w.2.2.2.1 (y * 12 + i) * B' (y * 12 + i) = A' (y * 12 + i) * w.2.2.2.2 (y * 12 + i)
theorem fcO {h : xHp} {F n m wt et ft kn cu vu vl ft' kn' cu' : Nat} {wy wg wy' wg' : Int32} {A B : Nat → Nat} {p : Nat → Nat → Nat} {W : Nat → Nat} {e : Nat → Nat → Nat} {ku kl : Nat → Nat} {w : Nat → Int} (k : FcAt h F n m wt et ft kn cu wy wg A B p W e ku kl w vu vl) : FcAt (xup h F (fcF F n m wt et ft' kn' cu' wy' wg')) F n m wt et ft' kn' cu' wy' wg' A B p W e ku kl w vu vl := by
  obtain ⟨fO, fS, fA, fB, fD, fW⟩ := k
  exact ⟨xup_s _ _ _, fS.ofq (fun q hq => xup_n (by omega)), (xup_n (by omega)).trans fA, (xup_n (by omega)).trans fB, fD.ofq (fun q a b c => xup_n (by omega)), fW.ofq (fun q a b => xup_n (by omega))⟩
theorem fcR {h h' : xHp} {F n m wt et ft kn cu vu vl y W1 : Nat} {wy wg : Int32} {A B : Nat → Nat} {p : Nat → Nat → Nat} {W : Nat → Nat} {e : Nat → Nat → Nat} {ku kl p1 e1 Z1 : Nat → Nat} {w : Nat → Int} (k : FcAt h F n m wt et ft kn cu wy wg A B p W e ku kl w vu vl) (hy : y < 12) (o : Off2 (rowA F n y) (5 + 2 * n) (F + 425 + 24 * n) 13 h h') (hr : RowAt h' (rowA F n y) n p1 W1 e1) (hz : MvAt h' (F + 425 + 24 * n) Z1) : FcAt h' F n m wt et ft kn cu wy wg A B (va_up p y p1) (va_up W y W1) (va_up e y e1) ku kl w vu vl := by
  obtain ⟨fO, fS, fA, fB, fD, fW⟩ := k
  have l1 := rowA_lo (F := F) (n := n) (y := y)
  have l2 := rowA_hi (F := F) (n := n) hy
  exact ⟨(o F (by omega) (by omega)).trans fO, fS.ofq (fun q hq => o q (by omega) (by omega)), (o _ (by omega) (by omega)).trans fA, (o _ (by omega) (by omega)).trans fB, fD.row hy o hr hz, fW.ofq (fun q a b => o q (by omega) (by omega))⟩
theorem fcR1 {h h' : xHp} {F n m wt et ft kn cu vu vl y W1 : Nat} {wy wg : Int32} {A B : Nat → Nat} {p : Nat → Nat → Nat} {W : Nat → Nat} {e : Nat → Nat → Nat} {ku kl p1 e1 : Nat → Nat} {w : Nat → Int} (k : FcAt h F n m wt et ft kn cu wy wg A B p W e ku kl w vu vl) (hy : y < 12) (o : Off (rowA F n y) (5 + 2 * n) h h') (hr : RowAt h' (rowA F n y) n p1 W1 e1) : FcAt h' F n m wt et ft kn cu wy wg A B (va_up p y p1) (va_up W y W1) (va_up e y e1) ku kl w vu vl := by
  obtain ⟨Z, c⟩ := k.2.2.2.2.1.2.2.1
  have l2 := rowA_hi (F := F) (n := n) hy
  exact fcR k hy (fun q x _ => o q x) hr (c.ofq (fun q x y => o q (by omega)))
theorem up_up {α : Type} {f : Nat → α} {j : Nat} {x y : α} : va_up (va_up f j x) j y = va_up f j y := by
  funext i
  by_cases z : i = j
  · subst z; rw [up_s, up_s]
  · rw [up_n z, up_n z, up_n z]
section FOR3
variable {g : xG} {post : xPost} {h : xHp} {nx : Nat}
theorem c_fshort {F n m wt et ft kn cu y vu vl D : Nat} {wy wg : Int32} {A B : Nat → Nat} {p : Nat → Nat → Nat} {W : Nat → Nat} {e : Nat → Nat → Nat} {ku kl P : Nat → Nat} {w : Nat → Int} (hF : FcAt h F n m wt et ft kn cu wy wg A B p W e ku kl w vu vl) (hy : y < 12) (he : eqf n (p y) (pw (e y) 168) P D) (hb : pw (e y) 168 ≤ Kb y)
    (hp : ∀ h' p' W' e', FcAt h' F n m wt et ft kn cu wy wg A B p' W' e' ku kl w vu vl → W' y = pw (e' y) 168 → eqf n (p' y) (W' y) P D → W' y ≤ Kb y → (∀ z, ¬ z = y → p' z = p z ∧ W' z = W z ∧ e' z = e z) → Off (rowA F n y) (5 + 2 * n) h h' → post none h' nx) : Ct g M_X5_shorten [.ref (rowA F n y)] h nx post := by
  have hR := hF.2.2.2.2.1.1 y hy
  have hkb := Kb_b y hy
  refine c_shorten hR (by omega) (fun h1 p1 e1 hR1 hs1 hO1 => hp h1 _ _ _ (fcR1 hF hy hO1 hR1) ?_ ?_ ?_ (fun z hz => ⟨up_n hz, up_n hz, up_n hz⟩) hO1)
  · rw [up_s, up_s]
  · rw [up_s, up_s]
    intro s hs
    have h1 := hs1.1 s hs
    have h2 := he s hs
    have h3 : p1 s * D * pw (e y) 168 = P s * pw e1 168 * pw (e y) 168 := by
      calc p1 s * D * pw (e y) 168 = p1 s * pw (e y) 168 * D := by grind
        _ = p y s * pw e1 168 * D := by rw [h1]
        _ = p y s * D * pw e1 168 := by grind
        _ = P s * pw (e y) 168 * pw e1 168 := by rw [h2]
        _ = P s * pw e1 168 * pw (e y) 168 := by grind
    exact Nat.eq_of_mul_eq_mul_right (pw_pos 168) h3
  · rw [up_s]
    exact Nat.le_trans (Nat.le_of_dvd (pw_pos 168) hs1.2) hb
theorem c_foretell {F n m wt et ft kn cu y vu vl lm ch : Nat} {wy wg : Int32} {A B C T G P S : Nat → Nat} {p : Nat → Nat → Nat} {W : Nat → Nat} {e : Nat → Nat → Nat} {ku kl : Nat → Nat} {w : Nat → Int} {wk ev : Tr} (hn : 2 ≤ n ∧ n ≤ 6) (hF : FcAt h F n m wt et ft kn cu wy wg A B p W e ku kl w vu vl) (hM : MovAt h m n C T G P S lm ch) (hWt : TrsAt h wt wk) (hEt : TrsAt h et ev) (ha : m + 6 ≤ F ∧ wt + 6 ≤ F ∧ et + 6 ≤ F) (hy : y < 12) (hs : stOK n A B) (hwk : trsOK n wk) (hev : trsOK n ev) (hm : movOK n P S) (hprev : ∀ z, z + 1 = y → rowOK n p W e ku kl z (fcs n A B wk ev P S z).1 (fcs n A B wk ev P S z).2)
    (hp1 : ∀ h' p' W' e' ku' kl', FcAt h' F n m wt et ft (y + 1) cu wy wg A B p' W' e' ku' kl' w vu vl → rowOK n p' W' e' ku' kl' y (fcs n A B wk ev P S y).1 (fcs n A B wk ev P S y).2 → (∀ z, z < y → p' z = p z ∧ W' z = W z ∧ e' z = e z) → (∀ i, i < y * 6 → ku' i = ku i ∧ kl' i = kl i) → Off F (451 + 24 * n) h h' → post none h' nx)
    (hp0 : ∀ h' p' W' e' ku' kl', FcAt h' F n m wt et ft kn y wy wg A B p' W' e' ku' kl' w vu vl → lng n (fcs n A B wk ev P S y).1 (fcs n A B wk ev P S y).2 → (∀ z, z < y → p' z = p z ∧ W' z = W z ∧ e' z = e z) → (∀ i, i < y * 6 → ku' i = ku i ∧ kl' i = kl i) → Off F (451 + 24 * n) h h' → post none h' nx) : Ct g M_X1_foretell [.ref F, .int (nI y)] h nx post := by
  obtain ⟨fO, fS, fA, fB, fD, fW⟩ := id hF
  obtain ⟨⟨G1, a1, a2⟩, ⟨G2, b1, b2⟩, c⟩ := id fS
  obtain ⟨d1, d2, ⟨Z, d3⟩, d4⟩ := id fD
  have hR := d1 y hy
  have l1 := rowA_lo (F := F) (n := n) (y := y)
  have l2 := rowA_hi (F := F) (n := n) hy
  refine Ct.of (by decide +kernel) (Nat.le_of_ble_eq_true rfl) (v_X1_foretell_0 ⟨_, _, _, _, _, _, _, _, _, _, _, _, _, _, _, _, _, _, fO, _, _, a1, _, by omega, by decide, a2 y hy, by omega, fun q => ?_, fun q => ?_⟩)
  · obtain ⟨z, hz⟩ : ∃ z, z + 1 = y := ⟨y - 1, by omega⟩
    subst hz
    rw [Nat.add_sub_cancel]
    have hz12 : z < 12 := by omega
    have hRz := d1 z hz12
    obtain ⟨r1, r2, r3, r4⟩ := hprev z rfl
    have lz := rowA_lt (F := F) (n := n) (y := z) (z := z + 1) (by omega)
    have lz1 := rowA_lo (F := F) (n := n) (y := z)
    obtain ⟨fv1, fb1⟩ := fcs_ok (w := wk) (v := ev) hn hs hwk hev hm z hz12
    obtain ⟨w1, w2⟩ := hwk z (by omega)
    obtain ⟨v1, v2⟩ := hev z (by omega)
    obtain ⟨Aw, Bw, hTw, hTw2⟩ := hWt
    obtain ⟨Ae, Be, hTe, hTe2⟩ := hEt
    have kba := Kb_a z (by omega)
    refine ⟨by omega, _, by omega, by decide, a2 z hz12, _, _, _, hR.2.1, c_rcopy hR hRz (by omega) (fun h1 e1 hR1 hE1 hO1 => ?_)⟩
    have o1 : ∀ q, (q < rowA F n (z + 1) ∨ rowA F n (z + 1) + (5 + 2 * n) ≤ q) → h1 q = h q := hO1
    have hTw1 := hTw.of hO1 (by omega)
    have he1 : eqf n (p z) (pw e1 168) (fcs n A B wk ev P S z).1 (fcs n A B wk ev P S z).2 := by rw [hE1, ← r1]; exact r2
    have hb1 : pw e1 168 ≤ Kb z := by rw [hE1, ← r1]; exact r3
    refine ⟨rfl, _, _, _, _, _, _, _, _, _, _, _, _, _, _, _, _, _, _, (o1 F (by omega)).trans fO, by omega, _, _, _, _, _, hTw1.1, ?_⟩
    have hK36 : Kb z * 1000 ^ 12 * 6000 < 1000000000 ^ 112 := by
      refine Nat.lt_of_le_of_lt (Nat.mul_le_mul_right _ (Nat.mul_le_mul_left _ ?_)) kba
      decide +kernel
    refine c_applyTo (A := wk.2.2.2.1) (B := wk.2.2.2.2) hR1 hTw1 (by omega) hz12 w1 w2 (fun i hi => hTw2 z (by omega) i hi) he1 fv1 hb1 hK36 (fun h2 p2 e2 hR2 he2 hb2 hO2 => ?_)
    have fv2 := tr_fv fv1 w2
    have hO12 := hO1.tr hO2
    have hb2' : pw e2 168 ≤ Kb z * 1000 ^ 12 := Nat.le_trans hb2 (Nat.mul_le_mul_left _ (Nat.pow_le_pow_right (by decide) w1))
    have hM2 := hM.of hO12 (by omega)
    have hZ2 := d3.of hO12 (by omega)
    have hle2 := eqf_le he2 fv2
    refine ⟨rfl, _, _, _, _, _, _, _, _, _, _, _, _, _, _, _, _, _, _, (hO12 F (by omega)).trans fO, _, _, _, hR2.2.1, ?_⟩
    have hpw : 110 ^ n ≤ 110 ^ 6 := Nat.pow_le_pow_right (by decide) hn.2
    have hbd : sm p2 n * 110 ^ n < 1000000000 ^ 112 := by
      have x1 : sm p2 n * 110 ^ n ≤ 6 * (Kb z * 1000 ^ 12) * 110 ^ 6 := Nat.mul_le_mul (by omega) hpw
      have x2 : 6 * (Kb z * 1000 ^ 12) * 110 ^ 6 = Kb z * (6 * 1000 ^ 12 * 110 ^ 6) := by grind
      have x3 : Kb z * (6 * 1000 ^ 12 * 110 ^ 6) ≤ Kb z * (10 ^ 85 * 6000) := Nat.mul_le_mul_left _ (by decide +kernel)
      rw [← Nat.mul_assoc] at x3
      omega
    refine c_move hR2 hM2 hZ2 (by omega) (by omega) hm.1 hbd (fun h3 e3 Z3 c3 hR3 hE3 hc0 hc1 hcd hZ3 hO3 => ?_)
    have hMo : ∀ q, (q < rowA F n (z + 1) ∨ rowA F n (z + 1) + (5 + 2 * n) ≤ q) → (q < F + 425 + 24 * n ∨ F + 425 + 24 * n + 13 ≤ q) → h3 q = h q := fun q x y => (hO3 q x y).trans (hO12 q x)
    have hTe3 : TrAt h3 et ev.1 ev.2.1 ev.2.2.1 Ae Be := by
      obtain ⟨k0, k1, k2, k3, k4, k5⟩ := hTe
      exact ⟨(hMo _ (by omega) (by omega)).trans k0, (hMo _ (by omega) (by omega)).trans k1, (hMo _ (by omega) (by omega)).trans k2, (hMo _ (by omega) (by omega)).trans k3, (hMo _ (by omega) (by omega)).trans k4, (hMo _ (by omega) (by omega)).trans k5⟩
    refine ⟨rfl, _, _, _, _, _, _, _, _, _, _, _, _, _, _, _, _, _, _, (hMo F (by omega) (by omega)).trans fO, by omega, _, _, _, _, _, hTe3.1, ?_⟩
    have hSp : ∀ f, f < n → 0 < S f := fun f hf => (hm.1 f hf).1
    have he3 : eqf n (fun t => mvs p2 S P c3 t n) (pw e3 168) (fun t => mvs (trP wk.2.1 wk.2.2.1 wk.2.2.2.1 wk.2.2.2.2 z (fcs n A B wk ev P S z).1 (wk.1 z)) S P (prd S n) t n) (trD wk.2.2.2.2 z (fcs n A B wk ev P S z).2 (wk.1 z) * prd S n) := by
      rw [hE3]
      exact eqf_mvs hSp hcd (fun f hf => prd_dvd hf) he2 (pw_pos 168) fv2.1 (fun t _ => rfl)
    have hQ := prd_pos (B := S) (n := n) hSp
    have fv3 : fv n (fun t => mvs (trP wk.2.1 wk.2.2.1 wk.2.2.2.1 wk.2.2.2.2 z (fcs n A B wk ev P S z).1 (wk.1 z)) S P (prd S n) t n) (trD wk.2.2.2.2 z (fcs n A B wk ev P S z).2 (wk.1 z) * prd S n) := by
      refine ⟨Nat.mul_pos fv2.1 hQ, ?_⟩
      rw [sm_mvs hm.2 (fun f hf _ => prd_dvd hf)]
      have := Nat.mul_le_mul_right (prd S n) fv2.2
      rw [Nat.mul_assoc] at this
      exact this
    have hb3 : pw e3 168 ≤ Kb z * 1000 ^ 12 * 110 ^ 6 := by
      rw [hE3]
      exact Nat.mul_le_mul hb2' (Nat.le_trans hc1 hpw)
    have hK85 : Kb z * 1000 ^ 12 * 110 ^ 6 * 1000 ^ 12 ≤ Kb z * 10 ^ 85 := by
      rw [Nat.mul_assoc, Nat.mul_assoc, ← Nat.mul_assoc (1000 ^ 12)]
      exact Nat.mul_le_mul_left _ (by decide +kernel)
    refine c_applyTo (A := ev.2.2.2.1) (B := ev.2.2.2.2) hR3 hTe3 (by omega) hz12 v1 v2 (fun i hi => hTe2 z (by omega) i hi) he3 fv3 hb3 (Nat.lt_of_le_of_lt (Nat.mul_le_mul_right _ hK85) kba) (fun h5 p5 e5 hR5 he5 hb5 hO5 => ?_)
    have hO25 : Off2 (rowA F n (z + 1)) (5 + 2 * n) (F + 425 + 24 * n) 13 h h5 := fun q x y => (hO5 q x).trans (hMo q x y)
    have fF5 := fcR hF hy hO25 hR5 (hZ3.of hO5 (by omega))
    have hb5' : pw e5 168 ≤ Kb (z + 1) := by
      refine Nat.le_trans hb5 (Nat.le_trans (Nat.mul_le_mul_left _ (Nat.pow_le_pow_right (by decide) v1)) hK85)
    refine ⟨rfl, _, _, _, hR5.2.1, c_fshort fF5 hy (P := (fcs n A B wk ev P S (z + 1)).1) (D := (fcs n A B wk ev P S (z + 1)).2) (by rw [up_s, up_s]; exact he5) (by rw [up_s]; exact hb5') (fun h6 p3 W3 e3 fF3 hW3 he3 hb3 hsm hO6 => ?_)⟩
    have hWp : 0 < W3 (z + 1) := by rw [hW3]; exact pw_pos 168
    have hOall : Off F (451 + 24 * n) h h6 := fun q x => (hO6 q (by omega)).trans (hO25 q (by omega) (by omega))
    refine ⟨rfl, _, _, _, _, _, _, _, _, _, _, _, _, _, _, _, _, _, _, fF3.1, c_keep hn fF3 hy hW3 (fun h4 ku4 kl4 fF4 hk4 hs4 hO4 => ⟨1, rfl, by decide, fun q => absurd q (by decide), fun _ => ⟨_, _, _, _, _, _, _, _, _, _, _, _, _, _, _, _, _, _, fF4.1, ?_⟩⟩) (fun h4 ku4 kl4 fF4 hl4 hs4 hO4 => ⟨0, rfl, by decide, fun _ => ⟨_, _, _, _, _, _, _, _, _, _, _, _, _, _, _, _, _, _, fF4.1, ?_⟩, fun q => absurd rfl q⟩)⟩
    · refine hp1 _ p3 W3 e3 ku4 kl4 (fcO fF4) ⟨hW3, he3, hb3, fun s hs => ⟨(hk4 s hs).1.sc hWp (he3 s hs), (hk4 s hs).2⟩⟩ (fun z hz => ⟨((hsm z (by omega)).1).trans (up_n (by omega)), ((hsm z (by omega)).2.1).trans (up_n (by omega)), ((hsm z (by omega)).2.2).trans (up_n (by omega))⟩) (fun i hi => hs4 i (by omega)) ((hOall.tr hO4).up (by omega) (by omega))
    · obtain ⟨s, hs, u, l, hl, hn4⟩ := hl4
      refine hp0 _ p3 W3 e3 ku4 kl4 (fcO fF4) (lng_mk hs (hl.sc hWp (he3 s hs)) hn4) (fun z hz => ⟨((hsm z (by omega)).1).trans (up_n (by omega)), ((hsm z (by omega)).2.1).trans (up_n (by omega)), ((hsm z (by omega)).2.2).trans (up_n (by omega))⟩) (fun i hi => hs4 i (by omega)) ((hOall.tr hO4).up (by omega) (by omega))
  · subst q
    have fA' := fA
    refine ⟨_, _, _, hR.2.1, c_begin hR fA fB (by omega) hs (fun h1 e1 c1 hR1 hE1 hc0 hc1 hcd hO1 => ?_)⟩
    have fF1 := fcR1 hF hy hO1 hR1
    have hpw : (1000 : Nat) ^ n ≤ 1000 ^ 6 := Nat.pow_le_pow_right (by decide) hn.2
    refine ⟨rfl, _, _, _, hR1.2.1, c_fshort fF1 hy (P := (fcs n A B wk ev P S 0).1) (D := (fcs n A B wk ev P S 0).2) ?_ (by rw [up_s, hE1]; exact Nat.le_trans hc1 hpw) (fun h6 p3 W3 e3 fF3 hW3 he3 hb3 hsm hO6 => ?_)⟩
    · rw [up_s, up_s, hE1]
      intro s hs'
      show c1 / B s * A s * prd B n = prd B n / B s * A s * c1
      obtain ⟨x1, hx1⟩ := hcd s hs'
      obtain ⟨x2, hx2⟩ := prd_dvd (B := B) hs'
      have hBs := (hs s hs').1
      have g1 : c1 / B s = x1 := by rw [hx1]; exact Nat.mul_div_cancel_left _ hBs
      have g2 : prd B n / B s = x2 := by rw [hx2]; exact Nat.mul_div_cancel_left _ hBs
      rw [g1, g2, hx1, hx2]
      grind
    have hWp : 0 < W3 0 := by rw [hW3]; exact pw_pos 168
    have hOall : Off F (451 + 24 * n) h h6 := fun q x => (hO6 q (by omega)).trans (hO1 q (by omega))
    refine ⟨rfl, _, _, _, _, _, _, _, _, _, _, _, _, _, _, _, _, _, _, fF3.1, c_keep hn fF3 hy hW3 (fun h4 ku4 kl4 fF4 hk4 hs4 hO4 => ⟨1, rfl, by decide, fun q => absurd q (by decide), fun _ => ⟨_, _, _, _, _, _, _, _, _, _, _, _, _, _, _, _, _, _, fF4.1, ?_⟩⟩) (fun h4 ku4 kl4 fF4 hl4 hs4 hO4 => ⟨0, rfl, by decide, fun _ => ⟨_, _, _, _, _, _, _, _, _, _, _, _, _, _, _, _, _, _, fF4.1, ?_⟩, fun q => absurd rfl q⟩)⟩
    · refine hp1 _ p3 W3 e3 ku4 kl4 (fcO fF4) ⟨hW3, he3, hb3, fun s hs => ⟨(hk4 s hs).1.sc hWp (he3 s hs), (hk4 s hs).2⟩⟩ (fun z hz => absurd hz (by omega)) (fun i hi => hs4 i (by omega)) ((hOall.tr hO4).up (by omega) (by omega))
    · obtain ⟨s, hs, u, l, hl, hn4⟩ := hl4
      refine hp0 _ p3 W3 e3 ku4 kl4 (fcO fF4) (lng_mk hs (hl.sc hWp (he3 s hs)) hn4) (fun z hz => absurd hz (by omega)) (fun i hi => hs4 i (by omega)) ((hOall.tr hO4).up (by omega) (by omega))
end FOR3
