/-! Row: made, begun, moved -/
def sm (p : Nat → Nat) : Nat → Nat
  | 0 => 0
  | n + 1 => sm p n + p n
theorem sm_congr {p q : Nat → Nat} : ∀ {n : Nat}, (∀ s, s < n → p s = q s) → sm p n = sm q n
  | 0, _ => rfl
  | n + 1, h => by
    show sm p n + p n = sm q n + q n
    rw [sm_congr (fun s hs => h s (by omega)), h n (by omega)]
theorem sm_le {p : Nat → Nat} {s : Nat} : ∀ {n : Nat}, s < n → p s ≤ sm p n
  | 0, h => absurd h (by omega)
  | n + 1, h => by
    show p s ≤ sm p n + p n
    rcases Nat.lt_or_ge s n with q | q
    · have := sm_le (p := p) q; omega
    · have : s = n := by omega
      subst this; omega
theorem sm_mono {p : Nat → Nat} {n : Nat} : ∀ {m : Nat}, n ≤ m → sm p n ≤ sm p m
  | 0, h => by have : n = 0 := by omega
               subst this; exact Nat.le_refl _
  | m + 1, h => by
    rcases Nat.lt_or_ge n (m + 1) with q | q
    · exact Nat.le_trans (sm_mono (by omega)) (Nat.le_add_right _ _)
    · have : n = m + 1 := by omega
      subst this; exact Nat.le_refl _
def Off2 (a n b m : Nat) (h h' : xHp) : Prop := ∀ q, (q < a ∨ a + n ≤ q) → (q < b ∨ b + m ≤ q) → h' q = h q
theorem Off2.rf {a n b m : Nat} {h : xHp} : Off2 a n b m h h := fun _ _ _ => rfl
theorem Off2.l {a n b m : Nat} {h h1 h2 : xHp} (k : Off2 a n b m h h1) (o : Off a n h1 h2) : Off2 a n b m h h2 := fun q h1 h2 => (o q h1).trans (k q h1 h2)
theorem Off2.r {a n b m : Nat} {h h1 h2 : xHp} (k : Off2 a n b m h h1) (o : Off b m h1 h2) : Off2 a n b m h h2 := fun q h1 h2 => (o q h2).trans (k q h1 h2)
abbrev MovAt (h : xHp) (m n : Nat) (C T G P B : Nat → Nat) (lm ch : Nat) : Prop :=
  h m = some (xo 5 [.int (nI n), .ref (m + 1), .ref (m + 2), .ref (m + 3), .ref (m + 4), .ref (m + 5), .int (nI lm), .int (nI ch)]) ∧ h (m + 1) = some (xna 36 C) ∧ h (m + 2) = some (xna 6 T) ∧ h (m + 3) = some (xna 6 G) ∧ h (m + 4) = some (xna 36 P) ∧ h (m + 5) = some (xna 6 B)
theorem MovAt.of {h h' : xHp} {m n lm ch lo sz : Nat} {C T G P B : Nat → Nat} (k : MovAt h m n C T G P B lm ch) (o : Off lo sz h h') (q : m + 6 ≤ lo ∨ lo + sz ≤ m) : MovAt h' m n C T G P B lm ch := by
  obtain ⟨k0, k1, k2, k3, k4, k5⟩ := k
  exact ⟨(o m (by omega)).trans k0, (o (m + 1) (by omega)).trans k1, (o (m + 2) (by omega)).trans k2, (o (m + 3) (by omega)).trans k3, (o (m + 4) (by omega)).trans k4, (o (m + 5) (by omega)).trans k5⟩
def MvAt (h : xHp) (mv : Nat) (V : Nat → Nat) : Prop := (∃ F : Nat → Option Nat, h mv = some (xra 4 6 F) ∧ ∀ s, s < 6 → F s = some (mv + 1 + 2 * s)) ∧ ∀ s, s < 6 → BigAt h (mv + 1 + 2 * s) 112 (V s)
theorem MvAt.of {h h' : xHp} {mv lo sz : Nat} {V : Nat → Nat} (k : MvAt h mv V) (o : Off lo sz h h') (q : mv + 13 ≤ lo ∨ lo + sz ≤ mv) : MvAt h' mv V := by
  obtain ⟨⟨F, k1, k2⟩, k3⟩ := k
  exact ⟨⟨F, (o mv (by omega)).trans k1, k2⟩, fun s hs => (k3 s hs).of o (by omega)⟩
theorem MvAt.part {h h' : xHp} {mv s v : Nat} {V : Nat → Nat} (k : MvAt h mv V) (hs : s < 6) (o : Off (mv + 1 + 2 * s) 2 h h') (b : BigAt h' (mv + 1 + 2 * s) 112 v) : MvAt h' mv (va_up V s v) := by
  obtain ⟨⟨F, k1, k2⟩, k3⟩ := k
  refine ⟨⟨F, (o mv (by omega)).trans k1, k2⟩, fun t ht => ?_⟩
  by_cases q : t = s
  · subst q; rw [up_s]; exact b
  · rw [up_n q]; exact (k3 t ht).of o (by omega)
theorem MvAt.congr {h : xHp} {mv : Nat} {V V' : Nat → Nat} (k : MvAt h mv V) (q : ∀ s, s < 6 → V s = V' s) : MvAt h mv V' := ⟨k.1, fun s hs => by rw [← q s hs]; exact k.2 s hs⟩
/-- what comes to a state from the states below i -/
def mvs (p B P : Nat → Nat) (c t : Nat) : Nat → Nat
  | 0 => 0
  | i + 1 => mvs p B P c t i + p i * (c / B i * P (i * 6 + t))
section ROW3
variable {g : xG} {post : xPost} {h : xHp} {nx : Nat}
theorem c_isZ1 {a N v : Nat} (hB : BigAt h a N v) (hv : v = 0) (hp : post (some (.int (nI 1))) h nx) : Ct g M_X0_isZero [.ref a] h nx post := c_isZero hB (by rw [if_pos hv]; exact hp)
theorem c_isZ0 {a N v : Nat} (hB : BigAt h a N v) (hv : ¬ v = 0) (hp : post (some (.int (nI 0))) h nx) : Ct g M_X0_isZero [.ref a] h nx post := c_isZero hB (by rw [if_neg hv]; exact hp)
theorem c_top {m n lm ch a b : Nat} {C T G P B : Nat → Nat} (hM : MovAt h m n C T G P B lm ch) (hab : a * 6 + b < 36) (hp : post (some (.int (nI (P (a * 6 + b))))) h nx) : Ct g M_X4_top [.ref m, .int (nI a), .int (nI b)] h nx post :=
  Ct.of (by decide +kernel) (Nat.le_of_ble_eq_true rfl) (v_X4_top_0 ⟨_, _, _, _, _, _, _, _, hM.1, _, _, hM.2.2.2.2.1, hab, by decide, hp⟩)
theorem c_bottom {m n lm ch a : Nat} {C T G P B : Nat → Nat} (hM : MovAt h m n C T G P B lm ch) (ha : a < 6) (hp : post (some (.int (nI (B a)))) h nx) : Ct g M_X4_bottom [.ref m, .int (nI a)] h nx post :=
  Ct.of (by decide +kernel) (Nat.le_of_ble_eq_true rfl) (v_X4_bottom_0 ⟨_, _, _, _, _, _, _, _, hM.1, _, _, hM.2.2.2.2.2, ha, by decide, hp⟩)
/-- moved numbers go back -/
theorem l_mv3 {r n W mv c : Nat} {p e M : Nat → Nat} (h00 : xHp) (hV : MvAt h00 mv M) (hd : r + 5 + 2 * n ≤ mv ∨ mv + 13 ≤ r) (hc : smooth c) (hc2 : c < 2 ^ 63) (hp : ∀ h' e', RowAt h' r n M W e' → pw e' 168 = pw e 168 * c → Off r (5 + 2 * n) h00 h' → post none h' nx) : ∀ (m i : Nat) (h : xHp), n - i = m → i ≤ n → RowAt h r n (fun s => if s < i then M s else p s) W e → Off r (5 + 2 * n) h00 h → Blk g M_X5_move post 148 [(0, .ref r), (2, .ref mv), (3, .long (lN c)), (5, .int (nI i))] [] h nx 0 0 := by
  intro m
  induction m with
  | zero =>
    intro i h hm hi hR hO
    obtain ⟨k0, k1, ⟨F, k2, k3⟩, k4, k5, k6⟩ := id hR
    exact v_X5_move_148 ⟨_, _, _, k1, _, _, k2, ⟨by omega, by omega⟩, fun _ => c_grow (hR.congr fun s hs => if_pos (by omega)) hc hc2 (fun h' e' hR' hE hO' => ⟨rfl, hp h' e' hR' hE (hO.tr hO')⟩), fun q => absurd q (by omega)⟩
  | succ m ih =>
    intro i h hm hi hR hO
    obtain ⟨k0, k1, ⟨F, k2, k3⟩, k4, k5, k6⟩ := id hR
    obtain ⟨⟨F2, j1, j2⟩, j3⟩ := hV.of hO (by omega)
    have hB := k4 i (by omega)
    obtain ⟨u, hu⟩ := hB.obj
    refine v_X5_move_148 ⟨_, _, _, k1, _, _, k2, ⟨by omega, by omega⟩, fun q => absurd q (by omega), fun _ => ⟨_, by omega, by omega, k3 i (by omega), _, _, j1, _, by omega, by decide, j2 i (by omega), _, _, hu, c_copy hB (j3 i (by omega)) (by omega) (j3 i (by omega)).lt (fun h1 hB1 hO1 => ⟨rfl, ?_⟩)⟩⟩
    refine ih (i + 1) h1 (by omega) (by omega) ((hR.part (by omega) hO1 hB1).congr fun s hs => ?_) (hO.tr (hO1.mono (by omega) (by omega)))
    by_cases y : s = i
    · subst y
      rw [up_s, if_pos (by omega)]
    · rw [up_n y]
      by_cases z : s < i
      · rw [if_pos z, if_pos (by omega)]
      · rw [if_neg z, if_neg (by omega)]
/-- one state's number goes out to all -/
theorem l_mv2 {r n W mv c i x m lm ch : Nat} {p e V C T G P B : Nat → Nat} (h00 : xHp) (hR : RowAt h00 r n p W e) (hM : MovAt h00 m n C T G P B lm ch) (hd : r + 5 + 2 * n ≤ mv ∨ mv + 13 ≤ r) (hd2 : m + 6 ≤ mv) (hi : i < n) (hpi : ¬ p i = 0) (hx : ∀ t, t < n → P (i * 6 + t) < 2 ^ 31 ∧ x * P (i * 6 + t) < 1000000000000000000) (hV : ∀ t, t < n → V t + p i * (x * P (i * 6 + t)) < 1000000000 ^ 112)
    (hk : ∀ h', MvAt h' mv (fun t => if t < n then V t + p i * (x * P (i * 6 + t)) else V t) → Off mv 13 h00 h' → Blk g M_X5_move post 56 [(0, .ref r), (1, .ref m), (2, .ref mv), (3, .long (lN c)), (5, .int (nI (i + 1)))] [] h' nx 0 0) :
    ∀ (d j : Nat) (h : xHp), n - j = d → j ≤ n → MvAt h mv (fun t => if t < j then V t + p i * (x * P (i * 6 + t)) else V t) → Off mv 13 h00 h → Blk g M_X5_move post 84 [(0, .ref r), (1, .ref m), (2, .ref mv), (3, .long (lN c)), (5, .int (nI i)), (6, .long (lN x)), (8, .int (nI j))] [] h nx 0 0 := by
  intro d
  induction d with
  | zero =>
    intro j h hm hj hW hO
    obtain ⟨k0, k1, ⟨F, k2, k3⟩, k4, k5, k6⟩ := hR.of hO (by omega)
    refine v_X5_move_84 ⟨_, _, _, k1, _, _, k2, ⟨by omega, by omega⟩, fun _ => hk h (hW.congr fun s hs => ?_) hO, fun q => absurd q (by omega)⟩
    have : j = n := by omega
    rw [this]
  | succ d ih =>
    intro j h hm hj hW hO
    obtain ⟨k0, k1, ⟨F, k2, k3⟩, k4, k5, k6⟩ := hR.of hO (by omega)
    have hM1 := hM.of hO (by omega)
    obtain ⟨⟨F2, j1, j2⟩, j3⟩ := id hW
    have hB := k4 i (by omega)
    obtain ⟨u, hu⟩ := hB.obj
    have hA := j3 j (by omega)
    obtain ⟨w, hw⟩ := hA.obj
    replace hA : BigAt h (mv + 1 + 2 * j) 112 (if j < j then V j + p i * (x * P (i * 6 + j)) else V j) := hA
    rw [if_neg (by omega)] at hA
    have hx1 := hx j (by omega)
    refine v_X5_move_84 ⟨_, _, _, k1, _, _, k2, ⟨by omega, by omega⟩, fun q => absurd q (by omega), fun _ => ⟨_, by omega, by omega, k3 i (by omega), _, _, hu, c_isZ0 hB hpi ⟨0, rfl, by decide, fun q => absurd rfl q, fun _ => ⟨_, _, j1, _, by omega, by decide, j2 j (by omega), _, _, _, k1, _, _, k2, _, by omega, by omega, k3 i (by omega), _, _, _, _, _, _, _, _, hM1.1, c_top hM1 (by omega) ⟨_, rfl, hx1.1, _, _, hw, c_addLong hA hB (by omega) hx1.2 (hV j (by omega)) (fun h1 hB1 hO1 => ⟨rfl, ?_⟩)⟩⟩⟩⟩⟩
    refine ih (j + 1) h1 (by omega) (by omega) ((hW.part (by omega) hO1 hB1).congr fun s hs => ?_) (hO.tr (hO1.mono (by omega) (by omega)))
    by_cases y : s = j
    · subst y
      rw [up_s, if_pos (by omega)]
    · rw [up_n y]
      by_cases z : s < j
      · rw [if_pos z, if_pos (by omega)]
      · rw [if_neg z, if_neg (by omega)]
abbrev shOK (n : Nat) (P B : Nat → Nat) : Prop := ∀ f, f < n → 0 < B f ∧ B f ≤ 110 ∧ ∀ t, t < n → P (f * 6 + t) ≤ B f
theorem mvs_le {p B P : Nat → Nat} {c t n : Nat} (h : shOK n P B) (ht : t < n) : ∀ i, i ≤ n → mvs p B P c t i ≤ sm p i * c
  | 0, _ => Nat.zero_le _
  | i + 1, hi => by
    show mvs p B P c t i + p i * (c / B i * P (i * 6 + t)) ≤ (sm p i + p i) * c
    have h1 := mvs_le (p := p) (c := c) h ht i (by omega)
    obtain ⟨b1, b2, b3⟩ := h i (by omega)
    have h2 : c / B i * P (i * 6 + t) ≤ c / B i * B i := Nat.mul_le_mul_left _ (b3 t ht)
    have h3 := Nat.div_mul_le_self c (B i)
    have h4 : p i * (c / B i * P (i * 6 + t)) ≤ p i * c := Nat.mul_le_mul_left _ (Nat.le_trans h2 h3)
    rw [Nat.add_mul]
    omega
theorem l_mv56 {r n W mv c m lm ch : Nat} {p e C T G P B Z0 : Nat → Nat} (h00 : xHp) (hR : RowAt h00 r n p W e) (hM : MovAt h00 m n C T G P B lm ch) (hd : r + 5 + 2 * n ≤ mv ∨ mv + 13 ≤ r) (hd2 : m + 6 ≤ mv ∧ m + 6 ≤ r) (hsh : shOK n P B) (hc : smooth c) (hc2 : c < 1000000000000000000) (hbd : sm p n * c < 1000000000 ^ 112)
    (hp : ∀ h' e' Z, RowAt h' r n (fun t => mvs p B P c t n) W e' → pw e' 168 = pw e 168 * c → MvAt h' mv Z → Off2 r (5 + 2 * n) mv 13 h00 h' → post none h' nx) :
    ∀ (d i : Nat) (h : xHp), n - i = d → i ≤ n → MvAt h mv (fun t => if t < n then mvs p B P c t i else Z0 t) → Off mv 13 h00 h → Blk g M_X5_move post 56 [(0, .ref r), (1, .ref m), (2, .ref mv), (3, .long (lN c)), (5, .int (nI i))] [] h nx 0 0 := by
  intro d
  induction d with
  | zero =>
    intro i h hm hi hW hO
    have hR1 := hR.of hO (by omega)
    obtain ⟨k0, k1, ⟨F, k2, k3⟩, k4, k5, k6⟩ := id hR1
    have hin : i = n := by omega
    subst hin
    refine v_X5_move_56 ⟨_, _, _, k1, _, _, k2, ⟨by omega, by omega⟩, fun _ => l_mv3 h hW hd hc (by omega) (fun h' e' hR' hE hO' => hp h' e' _ (hR'.congr fun s hs => if_pos hs) hE (hW.of hO' (by omega)) ((Off2.rf.r hO).l hO')) i 0 h rfl (Nat.zero_le _) (hR1.congr fun s _ => (if_neg (by omega)).symm) Off.rf, fun q => absurd q (by omega)⟩
  | succ d ih =>
    intro i h hm hi hW hO
    have hR1 := hR.of hO (by omega)
    have hM1 := hM.of hO (by omega)
    obtain ⟨k0, k1, ⟨F, k2, k3⟩, k4, k5, k6⟩ := id hR1
    obtain ⟨b1, b2, b3⟩ := hsh i (by omega)
    have eB : max 1 (B i) = B i := Nat.max_eq_right b1
    have hcd : c / B i ≤ c := Nat.div_le_self _ _
    refine v_X5_move_56 ⟨_, _, _, k1, _, _, k2, ⟨by omega, by omega⟩, fun q => absurd q (by omega), fun _ => ⟨_, _, _, _, _, _, _, _, hM1.1, c_bottom hM1 (by omega) ⟨_, rfl, ⟨by decide, by omega⟩, by omega, ⟨by omega, by omega, by omega⟩, ?_⟩⟩⟩
    rw [eB]
    by_cases hz : p i = 0
    · have hB := k4 i (by omega)
      obtain ⟨u, hu⟩ := hB.obj
      refine v_X5_move_84 ⟨_, _, _, k1, _, _, k2, ⟨by decide, by omega⟩, fun q => absurd q (by omega), fun _ => ⟨_, by omega, by omega, k3 i (by omega), _, _, hu, c_isZ1 hB hz ⟨1, rfl, by decide, fun _ => ih (i + 1) h (by omega) (by omega) (hW.congr fun s hs => ?_) hO, fun q => absurd q (by decide)⟩⟩⟩
      by_cases y : s < n
      · rw [if_pos y, if_pos y]
        show _ = mvs p B P c s i + p i * (c / B i * P (i * 6 + s))
        rw [hz, Nat.zero_mul, Nat.add_zero]
      · rw [if_neg y, if_neg y]
    · refine l_mv2 (V := fun t => if t < n then mvs p B P c t i else Z0 t) h hR1 hM1 hd hd2.1 (by omega) hz (fun t ht => ?_) (fun t ht => ?_) (fun h' hW' hO' => ih (i + 1) h' (by omega) (by omega) (hW'.congr fun s hs => ?_) (hO.tr hO')) n 0 h rfl (Nat.zero_le _) (hW.congr fun s _ => (if_neg (by omega)).symm) Off.rf
      · have h2 : c / B i * P (i * 6 + t) ≤ c / B i * B i := Nat.mul_le_mul_left _ (b3 t ht)
        have h3 := Nat.div_mul_le_self c (B i)
        have := b3 t ht
        omega
      · show (if t < n then mvs p B P c t i else Z0 t) + p i * (c / B i * P (i * 6 + t)) < _
        rw [if_pos ht]
        have h1 := mvs_le (p := p) (c := c) hsh ht (i + 1) (by omega)
        have h2 : sm p (i + 1) * c ≤ sm p n * c := Nat.mul_le_mul_right _ (sm_mono (by omega))
        exact Nat.lt_of_le_of_lt (Nat.le_trans h1 h2) hbd
      · by_cases y : s < n
        · rw [if_pos y, if_pos y, if_pos y]
          rfl
        · rw [if_neg y, if_neg y, if_neg y]
theorem l_mv5 {r n W mv m lm ch : Nat} {p e C T G P B : Nat → Nat} (h00 : xHp) (hR : RowAt h00 r n p W e) (hM : MovAt h00 m n C T G P B lm ch) (hd : r + 5 + 2 * n ≤ mv ∨ mv + 13 ≤ r) (hd2 : m + 6 ≤ mv ∧ m + 6 ≤ r) (hsh : shOK n P B)
    (hk : ∀ h' Z c, MvAt h' mv Z → (∀ t, t < n → Z t = 0) → 0 < c → c ≤ 110 ^ n → smooth c → (∀ s, s < n → ¬ p s = 0 → B s ∣ c) → Off mv 13 h00 h' → Blk g M_X5_move post 56 [(0, .ref r), (1, .ref m), (2, .ref mv), (3, .long (lN c)), (5, .int (nI 0))] [] h' nx 0 0) :
    ∀ (d i c : Nat) (Z : Nat → Nat) (h : xHp), n - i = d → i ≤ n → MvAt h mv Z → (∀ t, t < i → Z t = 0) → 0 < c → c ≤ 110 ^ i → smooth c → (∀ s, s < i → ¬ p s = 0 → B s ∣ c) → Off mv 13 h00 h → Blk g M_X5_move post 5 [(0, .ref r), (1, .ref m), (2, .ref mv), (3, .long (lN c)), (5, .int (nI i))] [] h nx 0 0 := by
  intro d
  induction d with
  | zero =>
    intro i c Z h hm hi hW hz c0 c1 c2 c3 hO
    obtain ⟨k0, k1, ⟨F, k2, k3⟩, k4, k5, k6⟩ := hR.of hO (by omega)
    have hin : i = n := by omega
    subst hin
    exact v_X5_move_5 ⟨_, _, _, k1, _, _, k2, ⟨by omega, by omega⟩, fun _ => hk h Z c hW hz c0 c1 c2 c3 hO, fun q => absurd q (by omega)⟩
  | succ d ih =>
    intro i c Z h hm hi hW hz c0 c1 c2 c3 hO
    have hR1 := hR.of hO (by omega)
    obtain ⟨k0, k1, ⟨F, k2, k3⟩, k4, k5, k6⟩ := id hR1
    obtain ⟨⟨F2, j1, j2⟩, j3⟩ := id hW
    obtain ⟨w, hw⟩ := (j3 i (by omega)).obj
    obtain ⟨b1, b2, b3⟩ := hsh i (by omega)
    have hpw : 110 ^ i ≤ 110 ^ 6 := Nat.pow_le_pow_right (by decide) (by omega)
    have hpw6 : 110 ^ 6 = 1771561000000 := by decide
    refine v_X5_move_5 ⟨_, _, _, k1, _, _, k2, ⟨by omega, by omega⟩, fun q => absurd q (by omega), fun _ => ⟨_, _, j1, _, by omega, by decide, j2 i (by omega), _, _, hw, c_set (j3 i (by omega)) (by decide +kernel) (by decide) (fun h1 hB1 hO1 => ⟨rfl, ?_⟩)⟩⟩
    have hO2 : Off mv 13 h00 h1 := hO.tr (hO1.mono (by omega) (by omega))
    have hW1 := hW.part (by omega) hO1 hB1
    have hz1 : ∀ t, t < i + 1 → va_up Z i 0 t = 0 := by
      intro t ht
      by_cases y : t = i
      · subst y; exact up_s
      · rw [up_n y]; exact hz t (by omega)
    have hR2 := hR.of hO2 (by omega)
    have hM2 := hM.of hO2 (by omega)
    obtain ⟨k0', k1', ⟨F', k2', k3'⟩, k4', k5', k6'⟩ := id hR2
    have hB := k4' i (by omega)
    obtain ⟨u, hu⟩ := hB.obj
    refine ⟨_, _, _, k1', _, _, k2', _, by omega, by omega, k3' i (by omega), _, _, hu, ?_⟩
    have hle : c ≤ 110 ^ (i + 1) := by
      rw [Nat.pow_succ]; omega
    by_cases y : p i = 0
    · refine c_isZ1 hB y ⟨1, rfl, by decide, fun _ => ih (i + 1) c _ h1 (by omega) (by omega) hW1 hz1 c0 hle c2 (fun s hs hp0 => ?_) hO2, fun q => absurd q (by decide)⟩
      by_cases z : s = i
      · subst z; exact absurd y hp0
      · exact c3 s (by omega) hp0
    · have hl1 : Nat.lcm c (B i) ∣ c * B i := Nat.lcm_dvd_mul _ _
      have hcb : 0 < c * B i := Nat.mul_pos c0 b1
      have hl2 : Nat.lcm c (B i) ≤ c * B i := Nat.le_of_dvd hcb hl1
      have hl3 : c * B i ≤ 110 ^ i * 110 := Nat.mul_le_mul c1 b2
      have hl4 : 0 < Nat.lcm c (B i) := Nat.lcm_pos c0 b1
      refine c_isZ0 hB y ⟨0, rfl, by decide, fun q => absurd rfl q, fun _ => ⟨_, _, _, _, _, _, _, _, hM2.1, c_bottom hM2 (by omega) ⟨_, rfl, c_cm ⟨c0, by omega⟩ ⟨b1, by omega⟩ ⟨_, rfl, ih (i + 1) _ _ h1 (by omega) (by omega) hW1 hz1 hl4 (by rw [Nat.pow_succ]; omega) ((c2.mul (smooth_le b1 (by omega))).dvd hl1) (fun s hs hp0 => ?_) hO2⟩⟩⟩⟩
      by_cases z : s = i
      · subst z; exact Nat.dvd_lcm_right _ _
      · exact Nat.dvd_trans (c3 s (by omega) hp0) (Nat.dvd_lcm_left _ _)
theorem c_move {r n W mv m lm ch : Nat} {p e C T G P B Z0 : Nat → Nat} (hR : RowAt h r n p W e) (hM : MovAt h m n C T G P B lm ch) (hW : MvAt h mv Z0) (hd : r + 5 + 2 * n ≤ mv ∨ mv + 13 ≤ r) (hd2 : m + 6 ≤ mv ∧ m + 6 ≤ r) (hsh : shOK n P B) (hbd : sm p n * 110 ^ n < 1000000000 ^ 112)
    (hp : ∀ h' e' Z c, RowAt h' r n (fun t => mvs p B P c t n) W e' → pw e' 168 = pw e 168 * c → 0 < c → c ≤ 110 ^ n → (∀ s, s < n → ¬ p s = 0 → B s ∣ c) → MvAt h' mv Z → Off2 r (5 + 2 * n) mv 13 h h' → post none h' nx) : Ct g M_X5_move [.ref r, .ref m, .ref mv] h nx post := by
  have hn := hR.1
  have hpw : 110 ^ n ≤ 110 ^ 6 := Nat.pow_le_pow_right (by decide) (by omega)
  have hpw6 : 110 ^ 6 = 1771561000000 := by decide
  refine Ct.of (by decide +kernel) (Nat.le_of_ble_eq_true rfl) (v_X5_move_0 (l_mv5 h hR hM hd hd2 hsh (fun h1 Z c hZ hz c0 c1 c2 c3 hO => ?_) n 0 1 Z0 h rfl (Nat.zero_le _) hW (fun t ht => absurd ht (by omega)) (by decide) (by decide) smooth_one (fun s hs => absurd hs (by omega)) Off.rf))
  refine l_mv56 (Z0 := Z) h1 (hR.of hO (by omega)) (hM.of hO (by omega)) hd hd2 hsh c2 (by omega) (Nat.lt_of_le_of_lt (Nat.mul_le_mul_left _ c1) hbd) (fun h' e' Z' hR' hE hZ' hO' => hp h' e' Z' c hR' hE c0 c1 c3 hZ' (fun q q1 q2 => (hO' q q1 q2).trans (hO q q2))) n 0 h1 rfl (Nat.zero_le _) ?_ Off.rf
  refine hZ.congr fun s hs => ?_
  by_cases y : s < n
  · rw [if_pos y]
    exact hz s y
  · rw [if_neg y]
theorem l_bg79 {r n W c : Nat} {p : Nat → Nat} (h00 : xHp) (hc : smooth c) (hc2 : c < 2 ^ 63) (hp : ∀ h' e', RowAt h' r n p W e' → pw e' 168 = c → Off r (5 + 2 * n) h00 h' → post none h' nx) : ∀ (d i : Nat) (E : Nat → Nat) (h : xHp), 168 - i = d → i ≤ 168 → RowAt h r n p W E → (∀ k, k < i → E k = 0) → Off r (5 + 2 * n) h00 h → Blk g M_X5_begin post 79 [(0, .ref r), (3, .long (lN c)), (5, .int (nI i))] [] h nx 0 0 := by
  intro d
  induction d with
  | zero =>
    intro i E h hm hi hR hz hO
    obtain ⟨k0, k1, k2, k4, k5, k6⟩ := id hR
    have e1 : pw E 168 = 1 := (pw_congr (e' := fun _ => 0) (fun k hk => hz k (by omega))).trans (pw_zero 168)
    refine v_X5_begin_79 ⟨_, _, _, k1, _, _, k6, ⟨by omega, by omega⟩, fun _ => c_grow hR hc hc2 (fun h' e' hR' hE hO' => ⟨rfl, hp h' e' hR' (by rw [hE, e1, Nat.one_mul]) (hO.tr hO')⟩), fun q => absurd q (by omega)⟩
  | succ d ih =>
    intro i E h hm hi hR hz hO
    obtain ⟨k0, k1, k2, k4, k5, k6⟩ := id hR
    refine v_X5_begin_79 ⟨_, _, _, k1, _, _, k6, ⟨by omega, by omega⟩, fun q => absurd q (by omega), fun _ => ⟨by omega, by decide, ih (i + 1) _ _ (by omega) (by omega) hR.pows (fun k hk => ?_) (hO.up (by omega) (by omega))⟩⟩
    by_cases y : k = i
    · subst y; exact up_s
    · rw [up_n y]; exact hz k (by omega)
abbrev stOK (n : Nat) (A B : Nat → Nat) : Prop := ∀ s, s < n → 0 < B s ∧ B s ≤ 1000 ∧ A s ≤ B s
theorem l_bg33 {r n W c a b : Nat} {p e A B : Nat → Nat} (h00 : xHp) (hA : h00 a = some (xna 6 A)) (hB : h00 b = some (xna 6 B)) (hd : a < r ∧ b < r) (hsh : stOK n A B) (hc : smooth c) (hc2 : c < 2 ^ 62) (hp : ∀ h' e', RowAt h' r n (fun s => c / B s * A s) W e' → pw e' 168 = c → Off r (5 + 2 * n) h00 h' → post none h' nx) : ∀ (d i : Nat) (h : xHp), n - i = d → i ≤ n → RowAt h r n (fun s => if s < i then c / B s * A s else p s) W e → Off r (5 + 2 * n) h00 h → Blk g M_X5_begin post 33 [(0, .ref r), (1, .ref a), (2, .ref b), (3, .long (lN c)), (5, .int (nI i))] [] h nx 0 0 := by
  intro d
  induction d with
  | zero =>
    intro i h hm hi hR hO
    obtain ⟨k0, k1, ⟨F, k2, k3⟩, k4, k5, k6⟩ := id hR
    exact v_X5_begin_33 ⟨_, _, _, k1, _, _, k2, ⟨by omega, by omega⟩, fun _ => l_bg79 h hc (by omega) (fun h' e' hR' hE hO' => hp h' e' hR' hE (hO.tr hO')) 168 0 e h rfl (by decide) (hR.congr fun s hs => if_pos (by omega)) (fun k hk => absurd hk (by omega)) Off.rf, fun q => absurd q (by omega)⟩
  | succ d ih =>
    intro i h hm hi hR hO
    obtain ⟨k0, k1, ⟨F, k2, k3⟩, k4, k5, k6⟩ := id hR
    obtain ⟨b1, b2, b3⟩ := hsh i (by omega)
    have eB : max 1 (B i) = B i := Nat.max_eq_right b1
    have hA1 := (hO a (by omega)).trans hA
    have hB1 := (hO b (by omega)).trans hB
    obtain ⟨u, hu⟩ := (k4 i (by omega)).obj
    have h2 : c / B i * A i ≤ c / B i * B i := Nat.mul_le_mul_left _ b3
    have h3 := Nat.div_mul_le_self c (B i)
    have h4 : (2 : Nat) ^ 62 ≤ 1000000000 ^ 112 := by decide +kernel
    refine v_X5_begin_33 ⟨_, _, _, k1, _, _, k2, ⟨by omega, by omega⟩, fun q => absurd q (by omega), fun _ => ⟨_, by omega, by omega, k3 i (by omega), _, _, hB1, by omega, by decide, ⟨by decide, by omega⟩, by omega, ⟨by omega, by omega, by omega⟩, _, _, hA1, by omega, by decide, by omega, _, _, hu, ?_⟩⟩
    rw [eB]
    refine c_set (k4 i (by omega)) (Nat.lt_of_lt_of_le (by omega) h4) (by omega) (fun h1 hB1 hO1 => ⟨rfl, ?_⟩)
    refine ih (i + 1) h1 (by omega) (by omega) ((hR.part (by omega) hO1 hB1).congr fun s hs => ?_) (hO.tr (hO1.mono (by omega) (by omega)))
    by_cases y : s = i
    · subst y
      rw [up_s, if_pos (by omega)]
    · rw [up_n y]
      by_cases z : s < i
      · rw [if_pos z, if_pos (by omega)]
      · rw [if_neg z, if_neg (by omega)]
theorem c_begin {r n W a b : Nat} {p e A B : Nat → Nat} (hR : RowAt h r n p W e) (hA : h a = some (xna 6 A)) (hB : h b = some (xna 6 B)) (hd : a < r ∧ b < r) (hsh : stOK n A B) (hp : ∀ h' e' c, RowAt h' r n (fun s => c / B s * A s) W e' → pw e' 168 = c → 0 < c → c ≤ 1000 ^ n → (∀ s, s < n → B s ∣ c) → Off r (5 + 2 * n) h h' → post none h' nx) : Ct g M_X5_begin [.ref r, .ref a, .ref b] h nx post := by
  have key : ∀ (d i c : Nat), n - i = d → i ≤ n → 0 < c → c ≤ 1000 ^ i → smooth c → (∀ s, s < i → B s ∣ c) → Blk g M_X5_begin post 5 [(0, .ref r), (1, .ref a), (2, .ref b), (3, .long (lN c)), (5, .int (nI i))] [] h nx 0 0 := by
    obtain ⟨k0, k1, ⟨F, k2, k3⟩, k4, k5, k6⟩ := id hR
    intro d
    induction d with
    | zero =>
      intro i c hm hi c0 c1 c2 c3
      have hin : i = n := by omega
      subst hin
      have hpw : 1000 ^ i ≤ 1000 ^ 6 := Nat.pow_le_pow_right (by decide) (by omega)
      have hpw6 : 1000 ^ 6 = 1000000000000000000 := by decide
      exact v_X5_begin_5 ⟨_, _, _, k1, _, _, k2, ⟨by omega, by omega⟩, fun _ => l_bg33 (p := p) h hA hB hd hsh c2 (by omega) (fun h' e' hR' hE hO => hp h' e' c hR' hE c0 c1 c3 hO) i 0 h rfl (Nat.zero_le _) (hR.congr fun s _ => (if_neg (by omega)).symm) Off.rf, fun q => absurd q (by omega)⟩
    | succ d ih =>
      intro i c hm hi c0 c1 c2 c3
      obtain ⟨b1, b2, b3⟩ := hsh i (by omega)
      have hl1 : Nat.lcm c (B i) ∣ c * B i := Nat.lcm_dvd_mul _ _
      have hcb : 0 < c * B i := Nat.mul_pos c0 b1
      have hl2 : Nat.lcm c (B i) ≤ c * B i := Nat.le_of_dvd hcb hl1
      have hl3 : c * B i ≤ 1000 ^ i * 1000 := Nat.mul_le_mul c1 b2
      have hl4 : 0 < Nat.lcm c (B i) := Nat.lcm_pos c0 b1
      have hpw : 1000 ^ i ≤ 1000 ^ 5 := Nat.pow_le_pow_right (by decide) (by omega)
      have hpw6 : 1000 ^ 5 = 1000000000000000 := by decide
      refine v_X5_begin_5 ⟨_, _, _, k1, _, _, k2, ⟨by omega, by omega⟩, fun q => absurd q (by omega), fun _ => ⟨_, _, hB, by omega, by decide, c_cm ⟨c0, by omega⟩ ⟨b1, by omega⟩ ⟨_, rfl, ih (i + 1) _ (by omega) (by omega) hl4 (by rw [Nat.pow_succ]; omega) ((c2.mul (smooth_le b1 (by omega))).dvd hl1) (fun s hs => ?_)⟩⟩⟩
      by_cases z : s = i
      · subst z; exact Nat.dvd_lcm_right _ _
      · exact Nat.dvd_trans (c3 s (by omega)) (Nat.dvd_lcm_left _ _)
  exact Ct.of (by decide +kernel) (Nat.le_of_ble_eq_true rfl) (v_X5_begin_0 (key n 0 1 rfl (Nat.zero_le _) (by decide) (by decide) smooth_one (fun s hs => absurd hs (by omega))))
abbrev RowPre (h : xHp) (r n i : Nat) : Prop := h r = some (xo 6 [.ref (r + 1), .null, .null]) ∧ (∃ F : Nat → Option Nat, h (r + 1) = some (xra 4 n F) ∧ ∀ s, s < i → F s = some (r + 2 + 2 * s)) ∧ ∀ s, s < i → BigAt h (r + 2 + 2 * s) 112 0
theorem l_rinit {r n : Nat} (h00 : xHp) (hn : 2 ≤ n ∧ n ≤ 6) (hp : ∀ h', RowAt h' r n (fun _ => 0) 0 (fun _ => 0) → Off r (5 + 2 * n) h00 h' → post none h' (r + 5 + 2 * n)) : ∀ (d i cu su nx : Nat) (h : xHp), n - i = d → i ≤ n → cu = 1 + 2 * i → su = n + 114 * i → nx = r + 2 + 2 * i → RowPre h r n i → Off r (5 + 2 * n) h00 h → Blk g M_X5_init post 14 [(0, .ref r), (1, .int (nI n)), (2, .int (nI 112)), (3, .int (nI i))] [] h nx cu su := by
  intro d
  induction d with
  | zero =>
    intro i cu su nx h hm hi e1 e2 e3 ⟨k1, ⟨F, k2, k3⟩, k4⟩ hO
    have hin : i = n := by omega
    subst hin; subst e1; subst e2; subst e3
    refine v_X5_init_14 ⟨⟨by omega, by omega⟩, fun _ => ⟨by omega, by omega, by omega, by omega, c_BigInit _ rfl ⟨by decide, by decide⟩ (xup_s _ _ _) (fun h1 hB1 hO1 => ⟨rfl, _, (hO1 r (by omega)).trans ((xup_n (by omega)).trans k1), by decide, by omega, by omega, by omega, by omega, by omega, ?_⟩)⟩, fun q => absurd q (by omega)⟩
    have hx : r + 2 + 2 * i + 1 + 1 = r + 4 + 2 * i := by omega
    rw [hx]
    have h5 : r + 4 + 2 * i + 1 = r + 5 + 2 * i := by omega
    rw [h5]
    refine hp _ ⟨hn, xup_s _ _ _, ⟨F, ?_, k3⟩, fun s hs => ?_, ?_, ?_⟩ ?_
    · exact (xup_n (by omega)).trans ((xup_n (by omega)).trans ((xup_n (by omega)).trans ((hO1 _ (by omega)).trans ((xup_n (by omega)).trans k2))))
    · exact (((k4 s hs).off (xup_n (by omega)) (xup_n (by omega))).of hO1 (by omega)).off ((xup_n (by omega)).trans ((xup_n (by omega)).trans (xup_n (by omega)))) ((xup_n (by omega)).trans ((xup_n (by omega)).trans (xup_n (by omega))))
    · exact hB1.off ((xup_n (by omega)).trans ((xup_n (by omega)).trans (xup_n (by omega)))) ((xup_n (by omega)).trans ((xup_n (by omega)).trans (xup_n (by omega))))
    · exact (xup_n (by omega)).trans (xup_s _ _ _)
    · exact ((((hO.up (by omega) (by omega)).tr (hO1.mono (by omega) (by omega))).up (by omega) (by omega)).up (by omega) (by omega)).up (by omega) (by omega)
  | succ d ih =>
    intro i cu su nx h hm hi e1 e2 e3 ⟨k1, ⟨F, k2, k3⟩, k4⟩ hO
    subst e1; subst e2; subst e3
    refine v_X5_init_14 ⟨⟨by omega, by omega⟩, fun q => absurd q (by omega), fun _ => ⟨_, k1, by omega, by omega, by omega, by omega, c_BigInit _ rfl ⟨by decide, by decide⟩ (xup_s _ _ _) (fun h1 hB1 hO1 => ?_)⟩⟩
    obtain ⟨u, hu⟩ := hB1.obj
    refine ⟨rfl, _, _, (hO1 (r + 1) (by omega)).trans ((xup_n (by omega)).trans k2), _, _, hu, by omega, by omega, ih (i + 1) _ _ _ _ (by omega) (by omega) (by omega) (by omega) (by omega) ⟨?_, ⟨_, xup_s _ _ _, fun s hs => ?_⟩, fun s hs => ?_⟩ ?_⟩
    · exact (xup_n (by omega)).trans ((hO1 _ (by omega)).trans ((xup_n (by omega)).trans k1))
    · by_cases y : s = i
      · subst y; exact up_s
      · rw [up_n y]; exact k3 s (by omega)
    · by_cases y : s = i
      · subst y; exact hB1.off (xup_n (by omega)) (xup_n (by omega))
      · exact (((k4 s (by omega)).off (xup_n (by omega)) (xup_n (by omega))).of hO1 (by omega)).off (xup_n (by omega)) (xup_n (by omega))
    · exact ((hO.up (by omega) (by omega)).tr (hO1.mono (by omega) (by omega))).up (by omega) (by omega)
theorem c_RowInit {n : Nat} (r : Nat) (hnx : r + 1 = nx) (hn : 2 ≤ n ∧ n ≤ 6) (h0 : h r = some (xo 6 [.null, .null, .null])) (hp : ∀ h', RowAt h' r n (fun _ => 0) 0 (fun _ => 0) → Off r (5 + 2 * n) h h' → post none h' (r + 5 + 2 * n)) : Ct g M_X5_init [.ref r, .int (nI n), .int (nI 112)] h nx post := by
  subst hnx
  exact Ct.of (by decide +kernel) (Nat.le_of_ble_eq_true rfl) (v_X5_init_0 ⟨by omega, by omega, by omega, h0, by omega, l_rinit h hn hp n 0 _ _ _ _ rfl (Nat.zero_le _) rfl (by omega) rfl ⟨xup_s _ _ _, ⟨_, (xup_n (by omega)).trans (xup_s _ _ _), fun s hs => absurd hs (by omega)⟩, fun s hs => absurd hs (by omega)⟩ ((Off.rf.up (by omega) (by omega)).up (by omega) (by omega))⟩)
end ROW3
