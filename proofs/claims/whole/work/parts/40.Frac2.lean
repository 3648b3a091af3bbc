/-! small numbers with signs; Fraction: differences and digits; short fractions -/
def iW (w : Int) : Int32 := Int32.ofInt w
theorem iW_toInt {w : Int} (h : w.natAbs ≤ 1000000) : (iW w).toInt = w := by
  unfold iW
  rw [Int32.toInt_ofInt, show (Int32.size) = 4294967296 from rfl]
  exact Int.bmod_eq_of_le (by omega) (by omega)
theorem iW_ge {w : Int} (h : w.natAbs ≤ 1000000) : 0 ≤ iW w ↔ 0 ≤ w := by
  rw [Int32.le_iff_toInt_le, iW_toInt h]
  exact Iff.rfl
theorem iW_abs {w : Int} (h : w.natAbs ≤ 1000000) : (if 0 ≤ iW w then iW w else 0 - iW w) = nI w.natAbs := by
  have e0 : (nI w.natAbs).toInt = (w.natAbs : Int) := nI_toInt (by omega)
  by_cases q : 0 ≤ w
  · rw [if_pos ((iW_ge h).mpr q)]
    exact Int32.toInt_inj.mp (by rw [iW_toInt h, e0]; omega)
  · rw [if_neg (fun z => q ((iW_ge h).mp z))]
    refine Int32.toInt_inj.mp ?_
    rw [Int32.toInt_sub, iW_toInt h, e0, show ((0 : Int32)).toInt = 0 from rfl]
    rw [Int.bmod_eq_of_le (by omega) (by omega)]
    omega
def wP (w : Nat → Int) (s : Nat) : Nat := if 0 ≤ w s then (w s).natAbs else 0
def wN (w : Nat → Int) (s : Nat) : Nat := if 0 ≤ w s then 0 else (w s).natAbs
def dgt (u l : Nat) (x : Int32) : Nat := if x < 0 then 0 else (if x.toNatClampNeg % 2 = 0 then u else l) / 1000000000 ^ (2 * (x.toNatClampNeg / 2)) % 1000000000000000000
def smp (a b : Nat) (x : Int32) : Nat := if x = 0 then a / Nat.gcd a b else if x = nI 1 then b / Nat.gcd a b else 0
section FRAC2
variable {g : xG} {post : xPost} {h : xHp} {nx : Nat}
theorem c_digits {f N u l : Nat} {x : Int32} (hF : FracAt h f N u l) (hp : post (some (.long (lN (dgt u l x)))) h nx) : Ct g M_X2_digits [.ref f, .int x] h nx post := by
  obtain ⟨w, hw⟩ := hF.2.1.obj
  obtain ⟨w2, hw2⟩ := hF.2.2.obj
  by_cases q : x < 0
  · have q2 : ¬ 0 ≤ x := Int32.not_le.mpr q
    unfold dgt at hp
    rw [if_pos q] at hp
    exact Ct.of (by decide +kernel) (Nat.le_of_ble_eq_true rfl) (v_X2_digits_0 ⟨fun z => absurd z q2, fun _ => hp⟩)
  · obtain ⟨j, hj, rfl⟩ := nI_of q
    have q2 : 0 ≤ nI j := nI_pos' hj
    have ea : nI j &&& nI 1 = nI (j % 2) := pk_andN (by omega) 1 (by decide)
    have es : nI j >>> (nI 1 &&& 31) = nI (j / 2) := pk_shrN hj _ 1 (by decide)
    unfold dgt at hp
    rw [if_neg q, nI_clamp hj] at hp
    refine Ct.of (by decide +kernel) (Nat.le_of_ble_eq_true rfl) (v_X2_digits_0 ⟨fun _ => ?_, fun z => absurd q2 z⟩)
    rw [ea, es]
    rcases Nat.mod_two_eq_zero_or_one j with z | z
    · rw [if_pos z] at hp
      rw [z]
      exact ⟨fun y => absurd rfl y, fun _ => ⟨_, _, hF.1, _, _, hw, c_eighteen hF.2.1 (by omega) ⟨_, rfl, hp⟩⟩⟩
    · rw [if_neg (by omega)] at hp
      rw [z]
      exact ⟨fun _ => ⟨_, _, hF.1, _, _, hw2, c_eighteen hF.2.2 (by omega) ⟨_, rfl, hp⟩⟩, fun y => absurd y (by decide)⟩
theorem c_smallG {x0 : Int64} {a b : Nat} {x : Int32} (ha : (if 0 < x0 then x0 else -x0) = lN a) (ha2 : a < 2 ^ 63) (hb : 0 < b ∧ b < 2 ^ 63) (hp0 : x = 0 → post (some (.long (x0 / lN (Nat.gcd a b)))) h nx) (hp1 : ¬ x = 0 → post (some (.long (lN (smp a b x)))) h nx) : Ct g M_X9_smallPart [.long x0, .long (lN b), .int x] h nx post := by
  have hg : 0 < Nat.gcd a b := Nat.gcd_pos_of_pos_right _ hb.1
  have hgl : Nat.gcd a b ≤ b := Nat.gcd_le_right _ hb.1
  have em : max 1 (Nat.gcd a b) = Nat.gcd a b := Nat.max_eq_right hg
  refine Ct.of (by decide +kernel) (Nat.le_of_ble_eq_true rfl) (v_X9_smallPart_0 ?_)
  rw [ha]
  refine c_cd ha2 hb.2 ⟨_, rfl, ⟨by decide, by omega⟩, fun q => ⟨fun q1 => ?_, fun q1 => ⟨⟨hb.2, by omega, by omega⟩, ?_⟩⟩, fun q => ⟨?_, ?_⟩⟩
  · have := hp1 q
    unfold smp at this
    rw [if_neg q, if_neg q1] at this
    exact this
  · have := hp1 q
    unfold smp at this
    rw [if_neg q, if_pos q1] at this
    rw [em]; exact this
  · exact lN_ne0 (by omega) (by omega)
  · rw [em]; exact hp0 q
theorem lN_abs {a : Nat} (ha : a < 2 ^ 63) : (if 0 < lN a then lN a else -lN a) = lN a := by
  by_cases q : a = 0
  · subst q; decide
  · rw [if_pos]
    exact (pk_lLT (a := 0) (by decide) ha).mpr (by omega)
theorem c_small {a b : Nat} {x : Int32} (ha2 : a < 2 ^ 63) (hb : 0 < b ∧ b < 2 ^ 63) (hp : post (some (.long (lN (smp a b x)))) h nx) : Ct g M_X9_smallPart [.long (lN a), .long (lN b), .int x] h nx post := by
  have hg : 0 < Nat.gcd a b := Nat.gcd_pos_of_pos_right _ hb.1
  have hgl : Nat.gcd a b ≤ b := Nat.gcd_le_right _ hb.1
  refine c_smallG (lN_abs ha2) ha2 hb (fun q => ?_) (fun _ => hp)
  unfold smp at hp
  rw [if_pos q] at hp
  rw [pk_lDiv ha2 hg (by omega)]
  exact hp
theorem sm_split {p : Nat → Nat} {w : Nat → Int} {i : Nat} : sm (fun s => p s * wP w s) (i + 1) = sm (fun s => p s * wP w s) i + p i * wP w i ∧ sm (fun s => p s * wN w s) (i + 1) = sm (fun s => p s * wN w s) i + p i * wN w i := ⟨rfl, rfl⟩
theorem c_setDifference {f r n W u0 l0 a : Nat} {p e : Nat → Nat} {w : Nat → Int} (hF : FracAt h f 112 u0 l0) (hR : RowAt h r n p W e) (hA : h a = some (xia 6 (fun s => iW (w s)))) (hw : ∀ s, s < n → (w s).natAbs ≤ 1000000) (hd : f + 5 ≤ r ∨ r + 5 + 2 * n ≤ f) (hda : a < f ∨ f + 5 ≤ a) (hbd : sm (fun s => p s * wP w s) n < 1000000000 ^ 112 ∧ sm (fun s => p s * wN w s) n < 1000000000 ^ 112)
    (hp : ∀ h' l', FracAt h' f 112 (if sm (fun s => p s * wP w s) n < sm (fun s => p s * wN w s) n then sm (fun s => p s * wN w s) n - sm (fun s => p s * wP w s) n else sm (fun s => p s * wP w s) n - sm (fun s => p s * wN w s) n) l' → Off f 5 h h' → post (some (.int (cmpN (sm (fun s => p s * wP w s) n) (sm (fun s => p s * wN w s) n)))) h' nx) : Ct g M_X2_setDifference [.ref f, .ref r, .ref a] h nx post := by
  have main : ∀ (d i : Nat) (h' : xHp), n - i = d → i ≤ n → FracAt h' f 112 (sm (fun s => p s * wP w s) i) (sm (fun s => p s * wN w s) i) → Off f 5 h h' → Blk g M_X2_setDifference post 18 [(0, .ref f), (1, .ref r), (2, .ref a), (3, .int (nI i))] [] h' nx 0 0 := by
    intro d
    induction d with
    | zero =>
      intro i h' hm hi hF' hO
      have hR1 := hR.of hO (by omega)
      have hin : i = n := by omega
      subst hin
      obtain ⟨w1, hw1⟩ := hF'.2.1.obj
      obtain ⟨w2, hw2⟩ := hF'.2.2.obj
      have hn := hR1.1
      refine v_X2_setDifference_18 ⟨_, _, _, hR1.2.1, c_states hR1 ⟨_, rfl, ⟨by omega, by omega⟩, fun _ => ⟨_, _, hF'.1, c_compareParts hF' ⟨_, rfl, fun q => ⟨_, _, hF'.1, _, _, hw1, ?_⟩, fun q => ⟨_, _, hF'.1, _, _, hw2, ?_⟩⟩⟩, fun q => absurd q (by omega)⟩⟩
      · have hlt : ¬ sm (fun s => p s * wP w s) i < sm (fun s => p s * wN w s) i := fun z => cmpN_neg.mpr z q
        refine c_subtract hF'.2.1 hF'.2.2 (by omega) (by omega) (fun h1 hB1 hO1 => ⟨rfl, hp h1 (sm (fun s => p s * wN w s) i) ?_ (hO.tr (hO1.mono (by omega) (by omega)))⟩)
        rw [if_neg hlt]
        exact hF'.up hO1 hB1
      · have hlt := cmpN_neg.mp q
        refine c_subtract hF'.2.2 hF'.2.1 (by omega) (by omega) (fun h1 hB1 hO1 => ?_)
        have hF1 := hF'.lo hO1 hB1
        obtain ⟨w3, hw3⟩ := hF1.2.1.obj
        refine ⟨rfl, _, _, hF1.1, _, _, hw3, c_copy hF1.2.1 hF1.2.2 (by omega) hF1.2.2.lt (fun h2 hB2 hO2 => ⟨rfl, hp h2 (sm (fun s => p s * wN w s) i - sm (fun s => p s * wP w s) i) ?_ (hO.tr ((hO1.mono (by omega) (by omega)).tr (hO2.mono (by omega) (by omega))))⟩)⟩
        rw [if_pos hlt]
        exact hF1.up hO2 hB2
    | succ d ih =>
      intro i h' hm hi hF' hO
      have hR1 := hR.of hO (by omega)
      have hA1 := (hO a (by omega)).trans hA
      have hn := hR1.1
      have hwi := hw i (by omega)
      obtain ⟨w1, hw1⟩ := hF'.2.1.obj
      obtain ⟨w2, hw2⟩ := hF'.2.2.obj
      have hBi := hR1.2.2.2.1 i (by omega)
      have eP := (sm_split (p := p) (w := w) (i := i)).1
      have eN := (sm_split (p := p) (w := w) (i := i)).2
      have mP : sm (fun s => p s * wP w s) (i + 1) ≤ sm (fun s => p s * wP w s) n := sm_mono (by omega)
      have mN : sm (fun s => p s * wN w s) (i + 1) ≤ sm (fun s => p s * wN w s) n := sm_mono (by omega)
      refine v_X2_setDifference_18 ⟨_, _, _, hR1.2.1, c_states hR1 ⟨_, rfl, ⟨by omega, by omega⟩, fun q => absurd q (by omega), fun _ => ⟨_, _, hA1, by omega, by decide, fun q => ⟨_, _, hF'.1, _, _, _, hR1.2.1, c_has hR1 (by omega) ⟨_, rfl, _, _, hA1, by omega, by decide, _, _, hw1, ?_⟩⟩, fun q => ⟨_, _, hF'.1, _, _, _, hR1.2.1, c_has hR1 (by omega) ⟨_, rfl, _, _, hA1, by omega, by decide, _, _, hw2, ?_⟩⟩⟩⟩⟩
      · have q1 := (iW_ge hwi).mp q
        have e1 : wP w i = (w i).natAbs := if_pos q1
        have e2 : wN w i = 0 := if_pos q1
        rw [e1] at eP
        rw [e2, Nat.mul_zero, Nat.add_zero] at eN
        rw [iW_abs hwi]
        refine c_addProduct hF'.2.1 hBi (by omega) (by omega) (by decide) (by rw [Nat.pow_zero, Nat.mul_one]; omega) (fun h1 hB1 hO1 => ⟨rfl, ?_⟩)
        rw [Nat.pow_zero, Nat.mul_one, ← eP] at hB1
        refine ih (i + 1) h1 (by omega) (by omega) ?_ (hO.tr (hO1.mono (by omega) (by omega)))
        rw [eN]
        exact hF'.up hO1 hB1
      · have q1 : ¬ 0 ≤ w i := fun z => q ((iW_ge hwi).mpr z)
        have e1 : wP w i = 0 := if_neg q1
        have e2 : wN w i = (w i).natAbs := if_neg q1
        rw [e1, Nat.mul_zero, Nat.add_zero] at eP
        rw [e2] at eN
        rw [iW_abs hwi]
        refine c_addProduct hF'.2.2 hBi (by omega) (by omega) (by decide) (by rw [Nat.pow_zero, Nat.mul_one]; omega) (fun h1 hB1 hO1 => ⟨rfl, ?_⟩)
        rw [Nat.pow_zero, Nat.mul_one, ← eN] at hB1
        refine ih (i + 1) h1 (by omega) (by omega) ?_ (hO.tr (hO1.mono (by omega) (by omega)))
        rw [eP]
        exact hF'.lo hO1 hB1
  obtain ⟨w1, hw1⟩ := hF.2.1.obj
  refine Ct.of (by decide +kernel) (Nat.le_of_ble_eq_true rfl) (v_X2_setDifference_0 ⟨_, _, hF.1, _, _, hw1, c_set hF.2.1 (by decide +kernel) (by decide) (fun h1 hB1 hO1 => ?_)⟩)
  have hF1 := hF.up hO1 hB1
  obtain ⟨w2, hw2⟩ := hF1.2.2.obj
  exact ⟨rfl, _, _, hF1.1, _, _, hw2, c_set hF1.2.2 (by decide +kernel) (by decide) (fun h2 hB2 hO2 => ⟨rfl, main n 0 h2 rfl (Nat.zero_le _) (hF1.lo hO2 hB2) ((hO1.mono (by omega) (by omega)).tr (hO2.mono (by omega) (by omega)))⟩)⟩
end FRAC2
