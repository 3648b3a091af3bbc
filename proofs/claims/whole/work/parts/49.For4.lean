/-! Forecast: standing, answers -/
abbrev FcI (n : Nat) (A B : Nat → Nat) (wk ev : Tr) (P S : Nat → Nat) (kn cu : Nat) (p : Nat → Nat → Nat) (W : Nat → Nat) (e : Nat → Nat → Nat) (ku kl : Nat → Nat) : Prop :=
  kn ≤ 12 ∧ (∀ y, y < kn → rowOK n p W e ku kl y (fcs n A B wk ev P S y).1 (fcs n A B wk ev P S y).2) ∧ (cu = 12 ∨ cu = kn ∧ cu < 12 ∧ lng n (fcs n A B wk ev P S cu).1 (fcs n A B wk ev P S cu).2)
theorem cmpN_zero {v w : Nat} : cmpN v w = 0 ↔ v = w := by
  unfold cmpN
  by_cases q : v < w
  · rw [if_pos q]; exact ⟨fun z => absurd z (by decide), fun z => by omega⟩
  · rw [if_neg q]
    by_cases r : v = w
    · rw [if_pos r]; exact ⟨fun _ => r, fun _ => rfl⟩
    · rw [if_neg r]; exact ⟨fun z => absurd z (by decide), fun z => absurd z r⟩
theorem cmpN_sc {u l U L D W : Nat} (hD : 0 < D) (hW : 0 < W) (h1 : u * D = U * W) (h2 : l * D = L * W) : cmpN u l = cmpN U L := by
  have e1 : u < l ↔ U < L := by
    constructor
    · intro q
      have := Nat.mul_lt_mul_of_pos_right q hD
      rw [h1, h2] at this
      exact Nat.lt_of_mul_lt_mul_right this
    · intro q
      have := Nat.mul_lt_mul_of_pos_right q hW
      rw [← h1, ← h2] at this
      exact Nat.lt_of_mul_lt_mul_right this
  have e2 : u = l ↔ U = L := by
    constructor
    · intro q
      rw [q, h2] at h1
      exact (Nat.eq_of_mul_eq_mul_right hW h1).symm
    · intro q
      rw [q, ← h2] at h1
      exact Nat.eq_of_mul_eq_mul_right hD h1
  unfold cmpN
  by_cases q : u < l
  · rw [if_pos q, if_pos (e1.mp q)]
  · rw [if_neg q, if_neg (fun z => q (e1.mpr z))]
    by_cases r : u = l
    · rw [if_pos r, if_pos (e2.mp r)]
    · rw [if_neg r, if_neg (fun z => r (e2.mpr z))]
theorem eqf_w {n W D : Nat} {p P k : Nat → Nat} (h : eqf n p W P D) : sm (fun s => p s * k s) n * D = sm (fun s => P s * k s) n * W := by
  refine eqf_sm (p := fun s => p s * k s) (P := fun s => P s * k s) (fun s hs => ?_)
  have := h s hs
  calc p s * k s * D = p s * D * k s := by grind
    _ = P s * W * k s := by rw [this]
    _ = P s * k s * W := by grind
def dst (a b : Nat) : Nat := if a < b then b - a else a - b
theorem dst_sc {u l U L D W : Nat} (hD : 0 < D) (hW : 0 < W) (h1 : u * D = U * W) (h2 : l * D = L * W) : dst u l * D = dst U L * W := by
  have e1 : u < l ↔ U < L := by
    constructor
    · intro q
      have := Nat.mul_lt_mul_of_pos_right q hD
      rw [h1, h2] at this
      exact Nat.lt_of_mul_lt_mul_right this
    · intro q
      have := Nat.mul_lt_mul_of_pos_right q hW
      rw [← h1, ← h2] at this
      exact Nat.lt_of_mul_lt_mul_right this
  unfold dst
  by_cases q : u < l
  · rw [if_pos q, if_pos (e1.mp q), Nat.sub_mul, Nat.sub_mul, h1, h2]
  · rw [if_neg q, if_neg (fun z => q (e1.mpr z)), Nat.sub_mul, Nat.sub_mul, h1, h2]
abbrev wsP (n : Nat) (w : Nat → Int) (P : Nat → Nat) : Nat := sm (fun s => P s * wP w s) n
abbrev wsN (n : Nat) (w : Nat → Int) (P : Nat → Nat) : Nat := sm (fun s => P s * wN w s) n
theorem ws_le {n : Nat} {w : Nat → Int} {P : Nat → Nat} (hw : ∀ s, s < n → (w s).natAbs ≤ 1000000) : wsP n w P ≤ sm P n * 1000000 ∧ wsN n w P ≤ sm P n * 1000000 := by
  rw [← sm_mul]
  constructor
  · refine sm_le_sm fun s hs => Nat.mul_le_mul_left _ ?_
    unfold wP
    have := hw s hs
    split <;> omega
  · refine sm_le_sm fun s hs => Nat.mul_le_mul_left _ ?_
    unfold wN
    have := hw s hs
    split <;> omega
theorem fcWr {h h' : xHp} {F n m wt et ft kn cu vu vl u1 l1 : Nat} {wy wg : Int32} {A B : Nat → Nat} {p : Nat → Nat → Nat} {W : Nat → Nat} {e : Nat → Nat → Nat} {ku kl : Nat → Nat} {w : Nat → Int} (k : FcAt h F n m wt et ft kn cu wy wg A B p W e ku kl w vu vl) (o : Off (F + 444 + 24 * n) 5 h h') (hf : FracAt h' (F + 444 + 24 * n) 112 u1 l1) : FcAt h' F n m wt et ft kn cu wy wg A B p W e ku kl w u1 l1 := by
  obtain ⟨fO, fS, fA, fB, fD, fW⟩ := k
  exact ⟨(o F (by omega)).trans fO, fS.ofq (fun q hq => o q (by omega)), (o _ (by omega)).trans fA, (o _ (by omega)).trans fB, fD.ofq (fun q a b c => o q (by omega)), (o _ (by omega)).trans fW.1, hf⟩
theorem fcSc {h h' : xHp} {F n m wt et ft kn cu vu vl u1 l1 : Nat} {wy wg : Int32} {A B : Nat → Nat} {p : Nat → Nat → Nat} {W : Nat → Nat} {e : Nat → Nat → Nat} {ku kl : Nat → Nat} {w : Nat → Int} (k : FcAt h F n m wt et ft kn cu wy wg A B p W e ku kl w vu vl) (o : Off (F + 438 + 24 * n) 5 h h') (hf : FracAt h' (F + 438 + 24 * n) 112 u1 l1) : FcAt h' F n m wt et ft kn cu wy wg A B p W e ku kl w vu vl := by
  obtain ⟨fO, fS, fA, fB, fD, fW⟩ := k
  exact ⟨(o F (by omega)).trans fO, fS.ofq (fun q hq => o q (by omega)), (o _ (by omega)).trans fA, (o _ (by omega)).trans fB, fD.scr o hf, fW.ofq (fun q a b => o q (by omega))⟩
section FOR4
variable {g : xG} {post : xPost} {h : xHp} {nx : Nat}
theorem c_stands {F n m wt et ft kn cu y vu vl lm ch : Nat} {wy wg : Int32} {A B C T G P S : Nat → Nat} {p : Nat → Nat → Nat} {W : Nat → Nat} {e : Nat → Nat → Nat} {ku kl : Nat → Nat} {w : Nat → Int} {wk ev : Tr} (hn : 2 ≤ n ∧ n ≤ 6) (hF : FcAt h F n m wt et ft kn cu wy wg A B p W e ku kl w vu vl) (hM : MovAt h m n C T G P S lm ch) (hWt : TrsAt h wt wk) (hEt : TrsAt h et ev) (ha : m + 6 ≤ F ∧ wt + 6 ≤ F ∧ et + 6 ≤ F) (hy : y < 12) (hs : stOK n A B) (hwk : trsOK n wk) (hev : trsOK n ev) (hm : movOK n P S) (hI : FcI n A B wk ev P S kn cu p W e ku kl)
    (hp : ∀ h' kn' cu' p' W' e' ku' kl', FcAt h' F n m wt et ft kn' cu' wy wg A B p' W' e' ku' kl' w vu vl → FcI n A B wk ev P S kn' cu' p' W' e' ku' kl' → kn ≤ kn' → (y < kn' ∨ kn' ≤ y ∧ lng n (fcs n A B wk ev P S kn').1 (fcs n A B wk ev P S kn').2) → Off F (451 + 24 * n) h h' → post (some (.int (nI (if y < kn' then 1 else 0)))) h' nx) : Ct g M_X1_stands [.ref F, .int (nI y)] h nx post := by
  have main : ∀ (d i kn' cu' : Nat) (p' : Nat → Nat → Nat) (W' : Nat → Nat) (e' : Nat → Nat → Nat) (ku' kl' : Nat → Nat) (h' : xHp), 14 - i = d → FcAt h' F n m wt et ft kn' cu' wy wg A B p' W' e' ku' kl' w vu vl → FcI n A B wk ev P S kn' cu' p' W' e' ku' kl' → kn ≤ kn' → (i = kn' ∨ cu' = kn' ∧ i = kn' + 1) → Off F (451 + 24 * n) h h' → Blk g M_X1_stands post 5 [(0, .ref F), (1, .int (nI y)), (2, .int (nI i))] [] h' nx 0 0 := by
    intro d
    induction d with
    | zero =>
      intro i kn' cu' p' W' e' ku' kl' h' hd hF' hI' hk hik hO
      have := hI'.1
      omega
    | succ d ih =>
      intro i kn' cu' p' W' e' ku' kl' h' hd hF' hI' hk hik hO
      obtain ⟨i1, i2, i3⟩ := id hI'
      have hcu : cu' ≤ 12 := by omega
      have out : (y < kn' ∨ kn' ≤ y ∧ lng n (fcs n A B wk ev P S kn').1 (fcs n A B wk ev P S kn').2) → (kn' ≤ y → post (some (.int (nI 0))) h' nx) ∧ (y < kn' → post (some (.int (nI 1))) h' nx) := by
        intro hx
        have := hp h' kn' cu' p' W' e' ku' kl' hF' hI' hk hx hO
        constructor
        · intro z; rw [if_neg (by omega)] at this; exact this
        · intro z; rw [if_pos z] at this; exact this
      have lngk : cu' = kn' → cu' < 12 → lng n (fcs n A B wk ev P S kn').1 (fcs n A B wk ev P S kn').2 := by
        intro e1 e2
        rcases i3 with z | ⟨z1, z2, z3⟩
        · omega
        · rw [← z1]; exact z3
      refine v_X1_stands_5 ⟨⟨by omega, by omega⟩, fun q => ⟨_, _, _, _, _, _, _, _, _, _, _, _, _, _, _, _, _, _, hF'.1, ⟨by omega, by omega⟩, ?_⟩, fun q => ⟨_, _, _, _, _, _, _, _, _, _, _, _, _, _, _, _, _, _, hF'.1, ⟨by omega, by omega⟩, fun q2 => ⟨⟨by omega, by omega⟩, ?_⟩, fun q2 => ?_⟩⟩
      · refine out ?_
        rcases Nat.lt_or_ge y kn' with z | z
        · exact Or.inl z
        · exact Or.inr ⟨z, lngk (by omega) (by omega)⟩
      · refine out (Or.inr ⟨by omega, lngk (by omega) (by omega)⟩)
      · have hik' : i = kn' := by omega
        subst hik'
        have hOd : ∀ q, q < F → h' q = h q := fun q hq => hO q (by omega)
        have hM' := hM.of hO (by omega)
        have hWt' : TrsAt h' wt wk := by
          obtain ⟨A', B', t1, t2⟩ := hWt
          exact ⟨A', B', t1.of hO (by omega), t2⟩
        have hEt' : TrsAt h' et ev := by
          obtain ⟨A', B', t1, t2⟩ := hEt
          exact ⟨A', B', t1.of hO (by omega), t2⟩
        have keepOK : ∀ (p2 : Nat → Nat → Nat) (W2 : Nat → Nat) (e2 : Nat → Nat → Nat) (ku2 kl2 : Nat → Nat), (∀ z, z < i → p2 z = p' z ∧ W2 z = W' z ∧ e2 z = e' z) → (∀ j, j < i * 6 → ku2 j = ku' j ∧ kl2 j = kl' j) → ∀ z, z < i → rowOK n p2 W2 e2 ku2 kl2 z (fcs n A B wk ev P S z).1 (fcs n A B wk ev P S z).2 := by
          intro p2 W2 e2 ku2 kl2 x1 x2 z hz
          obtain ⟨r1, r2, r3, r4⟩ := i2 z hz
          obtain ⟨y1, y2, y3⟩ := x1 z hz
          refine ⟨by rw [y2, y3]; exact r1, by rw [y1, y2]; exact r2, by rw [y2]; exact r3, fun s hs' => ?_⟩
          obtain ⟨u1, u2⟩ := x2 (z * 6 + s) (by omega)
          rw [u1, u2]; exact r4 s hs'
        refine c_foretell hn hF' hM' hWt' hEt' ha (by omega) hs hwk hev hm (fun z hz => i2 z (by omega)) (fun h2 p2 W2 e2 ku2 kl2 hF2 hr2 hs2 hs3 hO2 => ⟨rfl, ih (i + 1) (i + 1) cu' p2 W2 e2 ku2 kl2 h2 (by omega) hF2 ⟨by omega, fun z hz => ?_, Or.inl (by omega)⟩ (by omega) (Or.inl rfl) (hO.tr hO2)⟩) (fun h2 p2 W2 e2 ku2 kl2 hF2 hl2 hs2 hs3 hO2 => ⟨rfl, ih (i + 1) i i p2 W2 e2 ku2 kl2 h2 (by omega) hF2 ⟨by omega, keepOK p2 W2 e2 ku2 kl2 hs2 hs3, Or.inr ⟨rfl, by omega, hl2⟩⟩ hk (Or.inr ⟨rfl, rfl⟩) (hO.tr hO2)⟩)
        by_cases zz : z = i
        · subst zz; exact hr2
        · exact keepOK p2 W2 e2 ku2 kl2 hs2 hs3 z (by omega)
  have := hI.1
  exact Ct.of (by decide +kernel) (Nat.le_of_ble_eq_true rfl) (v_X1_stands_0 ⟨_, _, _, _, _, _, _, _, _, _, _, _, _, _, _, _, _, _, hF.1, main (14 - kn) kn kn cu p W e ku kl h rfl hF hI (Nat.le_refl _) (Or.inl rfl) Off.rf⟩)
theorem c_stateDigits {F n m wt et ft kn cu y s vu vl : Nat} {wy wg x : Int32} {A B : Nat → Nat} {p : Nat → Nat → Nat} {W : Nat → Nat} {e : Nat → Nat → Nat} {ku kl : Nat → Nat} {w : Nat → Int} (hF : FcAt h F n m wt et ft kn cu wy wg A B p W e ku kl w vu vl) (hy : y < 12) (hs : s < 6) (hp : post (some (.long (lN (dgt (ku (y * 6 + s)) (kl (y * 6 + s)) x)))) h nx) : Ct g M_X1_stateDigits [.ref F, .int (nI s), .int (nI y), .int x] h nx post := by
  obtain ⟨fO, ⟨_, ⟨G2, b1, b2⟩, _⟩, fA, fB, fD, fW⟩ := id hF
  have hK := fD.2.1 (y * 6 + s) (by omega)
  exact Ct.of (by decide +kernel) (Nat.le_of_ble_eq_true rfl) (v_X1_stateDigits_0 ⟨_, _, _, _, _, _, _, _, _, _, _, _, _, _, _, _, _, _, fO, _, _, b1, _, by omega, by decide, b2 _ (by omega), _, _, hK.1, c_digits hK ⟨_, rfl, hp⟩⟩)
theorem c_isOne {F n m wt et ft kn cu y vu vl D : Nat} {wy wg : Int32} {A B : Nat → Nat} {p : Nat → Nat → Nat} {W : Nat → Nat} {e : Nat → Nat → Nat} {ku kl P : Nat → Nat} {w : Nat → Int} (hF : FcAt h F n m wt et ft kn cu wy wg A B p W e ku kl w vu vl) (hy : y < 12) (hr : rowOK n p W e ku kl y P D) (hv : fv n P D) (hp : ∀ h', FcAt h' F n m wt et ft kn cu wy wg A B p W e ku kl w vu vl → Off F (451 + 24 * n) h h' → post (some (.int (nI (if sm P n = D then 1 else 0)))) h' nx) : Ct g M_X1_isOneTogether [.ref F, .int (nI y)] h nx post := by
  obtain ⟨fO, ⟨⟨G1, a1, a2⟩, _, _⟩, fA, fB, fD, fW⟩ := id hF
  obtain ⟨su, sl, d4⟩ := fD.2.2.2
  have l1 := rowA_lo (F := F) (n := n) (y := y)
  have l2 := rowA_hi (F := F) (n := n) hy
  obtain ⟨r1, r2, r3, r4⟩ := hr
  have hle := eqf_le r2 hv
  have hkb := Kb_b y hy
  have hR := fD.1 y hy
  have hWp : 0 < W y := by rw [r1]; exact pw_pos 168
  refine Ct.of (by decide +kernel) (Nat.le_of_ble_eq_true rfl) (v_X1_isOneTogether_0 ⟨_, _, _, _, _, _, _, _, _, _, _, _, _, _, _, _, _, _, fO, _, _, a1, _, by omega, by decide, a2 y hy, _, _, d4.1, c_setTail d4 hR (Nat.zero_le _) (by omega) (by omega) (fun h1 V hF1 hV hO1 => ?_)⟩)
  have hF' := fcSc hF hO1 hF1
  have hV : V = sm (p y) n := hV
  have e1 := eqf_sm r2
  have key : V = W y ↔ sm P n = D := by
    rw [hV]
    constructor
    · intro z
      rw [z, Nat.mul_comm] at e1
      exact (Nat.eq_of_mul_eq_mul_right hWp e1).symm
    · intro z
      rw [z, Nat.mul_comm D] at e1
      exact Nat.eq_of_mul_eq_mul_right hv.1 e1
  have hpp := hp h1 hF' (hO1.mono (by omega) (by omega))
  refine ⟨rfl, _, _, _, _, _, _, _, _, _, _, _, _, _, _, _, _, _, _, hF'.1, _, _, hF1.1, c_compareParts hF1 ⟨_, rfl, fun q => ?_, fun q => ?_⟩⟩
  · rw [if_neg (fun z => q (cmpN_zero.mpr (key.mpr z)))] at hpp
    exact hpp
  · rw [if_pos (key.mp (cmpN_zero.mp q))] at hpp
    exact hpp
theorem c_reaches {F n m wt et ft kn cu y s a b vu vl D : Nat} {wy wg : Int32} {A B : Nat → Nat} {p : Nat → Nat → Nat} {W : Nat → Nat} {e : Nat → Nat → Nat} {ku kl P : Nat → Nat} {w : Nat → Int} (hF : FcAt h F n m wt et ft kn cu wy wg A B p W e ku kl w vu vl) (hy : y < 12) (hs : s < n) (hab : a ≤ b ∧ b ≤ 1000) (hr : rowOK n p W e ku kl y P D) (hv : fv n P D) (hp : ∀ h', FcAt h' F n m wt et ft kn cu wy wg A B p W e ku kl w vu vl → Off F (451 + 24 * n) h h' → post (some (.int (nI (if D * a ≤ (sm P n - sm P s) * b then 1 else 0)))) h' nx) : Ct g M_X1_reaches [.ref F, .int (nI y), .int (nI s), .int (nI a), .int (nI b)] h nx post := by
  obtain ⟨fO, ⟨⟨G1, a1, a2⟩, _, _⟩, fA, fB, fD, fW⟩ := id hF
  obtain ⟨su, sl, d4⟩ := fD.2.2.2
  have l1 := rowA_lo (F := F) (n := n) (y := y)
  have l2 := rowA_hi (F := F) (n := n) hy
  obtain ⟨r1, r2, r3, r4⟩ := hr
  have hle := eqf_le r2 hv
  have hkb := Kb_b y hy
  have hR := fD.1 y hy
  have hWp : 0 < W y := by rw [r1]; exact pw_pos 168
  refine Ct.of (by decide +kernel) (Nat.le_of_ble_eq_true rfl) (v_X1_reaches_0 ⟨_, _, _, _, _, _, _, _, _, _, _, _, _, _, _, _, _, _, fO, _, _, a1, _, by omega, by decide, a2 y hy, _, _, d4.1, c_setTail d4 hR (by omega) (by omega) (by omega) (fun h1 V hF1 hV hO1 => ?_)⟩)
  have hF' := fcSc hF hO1 hF1
  have hVb : V * b ≤ 6 * Kb y * 1000 := Nat.mul_le_mul (by omega) hab.2
  have hWa : W y * a ≤ Kb y * 1000 := Nat.mul_le_mul r3 (by omega)
  refine ⟨rfl, _, _, _, _, _, _, _, _, _, _, _, _, _, _, _, _, _, _, hF'.1, _, _, hF1.1, c_multiplyParts hF1 (by omega) (by omega) (by omega) (by omega) (fun h2 hF2 hO2 => ?_)⟩
  have hF'' := fcSc hF' hO2 hF2
  have hpp := hp h2 hF'' ((hO1.mono (by omega) (by omega)).tr (hO2.mono (by omega) (by omega)))
  have e1 : V * D = (sm P n - sm P s) * W y := by
    have h3 := eqf_sm r2
    have h4 := eqf_sm (n := s) (fun t ht => r2 t (by omega))
    have h5 : V = sm (p y) n - sm (p y) s := by omega
    rw [h5, Nat.sub_mul, Nat.sub_mul, h3, h4]
  have key : V * b < W y * a ↔ ¬ D * a ≤ (sm P n - sm P s) * b := by
    rw [Nat.not_le]
    constructor
    · intro z
      have := Nat.mul_lt_mul_of_pos_right z hv.1
      have x1 : V * b * D = (sm P n - sm P s) * b * W y := by
        calc V * b * D = V * D * b := by grind
          _ = (sm P n - sm P s) * W y * b := by rw [e1]
          _ = _ := by grind
      have x2 : W y * a * D = D * a * W y := by grind
      rw [x1, x2] at this
      exact Nat.lt_of_mul_lt_mul_right this
    · intro z
      have := Nat.mul_lt_mul_of_pos_right z hWp
      have x1 : V * b * D = (sm P n - sm P s) * b * W y := by
        calc V * b * D = V * D * b := by grind
          _ = (sm P n - sm P s) * W y * b := by rw [e1]
          _ = _ := by grind
      have x2 : W y * a * D = D * a * W y := by grind
      rw [← x1, ← x2] at this
      exact Nat.lt_of_mul_lt_mul_right this
  refine ⟨rfl, _, _, _, _, _, _, _, _, _, _, _, _, _, _, _, _, _, _, hF''.1, _, _, hF2.1, c_compareParts hF2 ⟨_, rfl, fun q => ?_, fun q => ?_⟩⟩
  · rw [if_neg (key.mp (cmpN_neg.mp (Int32.not_le.mpr q)))] at hpp
    exact hpp
  · rw [if_pos (by
      refine Decidable.byContradiction fun z => q ?_
      exact Int32.not_le.mp (cmpN_neg.mpr (key.mpr z)))] at hpp
    exact hpp
theorem c_setWorth {F n m wt et ft kn cu s vu vl : Nat} {wy wg : Int32} {x : Int} {A B : Nat → Nat} {p : Nat → Nat → Nat} {W : Nat → Nat} {e : Nat → Nat → Nat} {ku kl : Nat → Nat} {w : Nat → Int} (hF : FcAt h F n m wt et ft kn cu wy wg A B p W e ku kl w vu vl) (hs : s < 6) (hp : ∀ h', FcAt h' F n m wt et ft kn cu (-1) wg A B p W e ku kl (va_up w s x) vu vl → Off F (451 + 24 * n) h h' → post none h' nx) : Ct g M_X1_setWorth [.ref F, .int (nI s), .int (iW x)] h nx post := by
  obtain ⟨fO, fS, fA, fB, fD, fW⟩ := id hF
  refine Ct.of (by decide +kernel) (Nat.le_of_ble_eq_true rfl) (v_X1_setWorth_0 ⟨_, _, _, _, _, _, _, _, _, _, _, _, _, _, _, _, _, _, fO, _, _, fW.1, hs, by decide, hp _ ⟨xup_s _ _ _, fS.ofq (fun q hq => (xup_n (by omega)).trans (xup_n (by omega))), (xup_n (by omega)).trans ((xup_n (by omega)).trans fA), (xup_n (by omega)).trans ((xup_n (by omega)).trans fB), fD.ofq (fun q a b c => (xup_n (by omega)).trans (xup_n (by omega))), ((xup_n (by omega)).trans (xup_s _ _ _)).trans ?_, fW.2.ofq (fun q a b => (xup_n (by omega)).trans (xup_n (by omega)))⟩ ((Off.rf.up (by omega) (by omega)).up (by omega) (by omega))⟩)
  have : va_up (fun s => iW (w s)) s (iW x) = fun j => iW (va_up w s x j) := by
    funext j
    by_cases z : j = s
    · subst z; rw [up_s, up_s]
    · rw [up_n z, up_n z]
  rw [this]
theorem c_worthDigits {F n m wt et ft kn cu y vu vl D : Nat} {wy wg x : Int32} {A B : Nat → Nat} {p : Nat → Nat → Nat} {W : Nat → Nat} {e : Nat → Nat → Nat} {ku kl P : Nat → Nat} {w : Nat → Int} (hF : FcAt h F n m wt et ft kn cu wy wg A B p W e ku kl w vu vl) (hy : y < 12) (hr : rowOK n p W e ku kl y P D) (hv : fv n P D) (hw : ∀ s, s < n → (w s).natAbs ≤ 1000000) (hI : wy = nI y → wg = cmpN (wsP n w P) (wsN n w P) ∧ lowT (dst (wsP n w P) (wsN n w P)) D vu vl)
    (hp : ∀ h' vu' vl', FcAt h' F n m wt et ft kn cu (nI y) (cmpN (wsP n w P) (wsN n w P)) A B p W e ku kl w vu' vl' → lowT (dst (wsP n w P) (wsN n w P)) D vu' vl' → Off F (451 + 24 * n) h h' → post (some (.long (if x = -1 then (cmpN (wsP n w P) (wsN n w P)).toInt64 else lN (dgt vu' vl' x)))) h' nx) : Ct g M_X1_worthDigits [.ref F, .int (nI y), .int x] h nx post := by
  obtain ⟨fO, fS, fA, fB, fD, fW⟩ := id hF
  obtain ⟨⟨G1, a1, a2⟩, _, _⟩ := id fS
  obtain ⟨su, sl, d4⟩ := fD.2.2.2
  have l1 := rowA_lo (F := F) (n := n) (y := y)
  have l2 := rowA_hi (F := F) (n := n) hy
  obtain ⟨r1, r2, r3, r4⟩ := id hr
  have hle := eqf_le r2 hv
  have hkb := Kb_b y hy
  have hR := fD.1 y hy
  have hWp : 0 < W y := by rw [r1]; exact pw_pos 168
  have eP := eqf_w (k := wP w) r2
  have eN := eqf_w (k := wN w) r2
  obtain ⟨bP, bN⟩ := ws_le (n := n) (w := w) (P := p y) hw
  replace bP : sm (fun s => p y s * wP w s) n ≤ sm (p y) n * 1000000 := bP
  replace bN : sm (fun s => p y s * wN w s) n ≤ sm (p y) n * 1000000 := bN
  refine Ct.of (by decide +kernel) (Nat.le_of_ble_eq_true rfl) (v_X1_worthDigits_0 ⟨_, _, _, _, _, _, _, _, _, _, _, _, _, _, _, _, _, _, fO, fun q => ?_, fun q => ⟨_, _, a1, _, by omega, by decide, a2 y hy, _, _, d4.1, c_setDifference d4 hR fW.1 hw (by omega) (by omega) ⟨by omega, by omega⟩ (fun h1 l1' hF1 hO1 => ?_)⟩⟩)
  · obtain ⟨i1, i2⟩ := hI q
    have hpp := hp h vu vl (by rw [← q, ← i1]; exact hF) i2 Off.rf
    refine ⟨fun z => ⟨_, _, fW.2.1, c_digits fW.2 ⟨_, rfl, ?_⟩⟩, fun z => ?_⟩
    · rw [if_neg z] at hpp; exact hpp
    · rw [if_pos z, ← i1] at hpp; exact hpp
  · have hF' := fcSc hF hO1 hF1
    have ec : cmpN (sm (fun s => p y s * wP w s) n) (sm (fun s => p y s * wN w s) n) = cmpN (wsP n w P) (wsN n w P) := cmpN_sc hv.1 hWp eP eN
    refine ⟨_, rfl, _, _, _, _, _, _, _, _, _, _, _, _, _, _, _, _, _, _, hF'.1, _, _, hF1.1, ?_⟩
    rw [ec]
    have hF2 := fcO (ft' := ft) (kn' := kn) (cu' := cu) (wy' := wy) (wg' := cmpN (wsP n w P) (wsN n w P)) hF'
    have hFs2 : FracAt (xup h1 F (fcF F n m wt et ft kn cu wy (cmpN (wsP n w P) (wsN n w P)))) (F + 438 + 24 * n) 112 _ _ := hF1.ofq (fun q a b => xup_n (by omega))
    refine c_upper hFs2 ⟨_, rfl, _, _, _, _, _, _, _, _, _, _, _, _, _, _, _, _, _, _, hF2.1, ?_⟩
    obtain ⟨⟨G3, a3, a4⟩, _, _⟩ := id hF2.2.1
    have hR2 := hF2.2.2.2.2.1.1 y hy
    rw [r1] at hR2
    have hW2 := hF2.2.2.2.2.2
    refine ⟨_, _, a3, _, by omega, by decide, a4 y hy, _, _, hW2.2.1, c_setLowest hW2.2 hFs2.2.1 hR2 (by omega) (by omega) hFs2.2.1.lt (fun h3 u3 l3 hF3 hl3 hO3 => ?_)⟩
    have hF4 := fcWr hF2 hO3 hF3
    rw [← r1] at hl3
    have hl4 : lowT (dst (wsP n w P) (wsN n w P)) D u3 l3 := hl3.T.sc hWp (dst_sc hv.1 hWp eP eN)
    have hF5 := fcO (ft' := ft) (kn' := kn) (cu' := cu) (wy' := nI y) (wg' := cmpN (wsP n w P) (wsN n w P)) hF4
    have hpp := hp _ u3 l3 hF5 hl4 ((((hO1.mono (by omega) (by omega)).up (by omega) (by omega)).tr (hO3.mono (by omega) (by omega))).up (by omega) (by omega))
    refine ⟨rfl, _, _, _, _, _, _, _, _, _, _, _, _, _, _, _, _, _, _, hF4.1, fun z => ⟨_, _, hF4.2.2.2.2.2.2.1, c_digits hF5.2.2.2.2.2.2 ⟨_, rfl, ?_⟩⟩, fun z => ?_⟩
    · rw [if_neg z] at hpp; exact hpp
    · rw [if_pos z] at hpp; exact hpp
end FOR4
