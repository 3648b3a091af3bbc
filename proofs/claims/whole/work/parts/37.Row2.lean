/-! the greatest common divisor; Row: shortening, copying, transfers -/
def fibn : Nat → Nat
  | 0 => 0
  | 1 => 1
  | n + 2 => fibn n + fibn (n + 1)
section ROW2
variable {g : xG} {post : xPost} {h : xHp} {nx : Nat}
theorem l_cd {G : Nat} (hp : post (some (.long (lN G))) h nx) : ∀ (n a b i : Nat), b < a → (a < fibn (n + 1) ∨ b < fibn n) → a < 2 ^ 63 → i + n ≤ 100 → Nat.gcd a b = G → Blk g M_X9_commonDivisor post 9 [(4, .long (lN a)), (6, .long (lN b)), (8, .int (nI i))] [] h nx 0 0 := by
  intro n
  induction n with
  | zero =>
    intro a b i hb hf
    have e0 : fibn 0 = 0 := rfl
    have e1 : fibn (0 + 1) = 1 := rfl
    omega
  | succ n ih =>
    intro a b i hb hf ha hi hG
    refine v_X9_commonDivisor_9 ⟨⟨by omega, by decide⟩, fun q => absurd q (by omega), fun _ => ⟨⟨by omega, by decide⟩, fun q => ?_, fun q => ⟨⟨ha, q, by omega⟩, ?_⟩⟩⟩
    · have : b = 0 := by omega
      subst this
      rw [Nat.gcd_zero_right] at hG
      rw [hG]
      exact hp
    · have hm := Nat.mod_lt a q
      refine ih b (a % b) (i + 1) hm ?_ (by omega) (by omega) ?_
      · rcases Nat.lt_or_ge b (fibn (n + 1)) with y | y
        · exact Or.inl y
        · have e2 : fibn (n + 1 + 1) = fibn n + fibn (n + 1) := rfl
          have hd := Nat.div_add_mod a b
          have h1 : b * 1 ≤ b * (a / b) := Nat.mul_le_mul_left b (Nat.div_pos (by omega) q)
          refine Or.inr ?_
          omega
      · rw [← hG, Nat.gcd_comm a b, Nat.gcd_rec b a, Nat.gcd_comm]
theorem c_cd {a b : Nat} (ha : a < 2 ^ 63) (hb : b < 2 ^ 63) (hp : post (some (.long (lN (Nat.gcd a b)))) h nx) : Ct g M_X9_commonDivisor [.long (lN a), .long (lN b)] h nx post := by
  have hf : 2 ^ 63 ≤ fibn 93 := by decide +kernel
  refine Ct.of (by decide +kernel) (Nat.le_of_ble_eq_true rfl) (v_X9_commonDivisor_0 ?_)
  rcases Nat.lt_or_ge b a with q | q
  · exact l_cd hp 92 a b 0 q (Or.inl (by show a < fibn 93; omega)) ha (by omega) rfl
  · refine v_X9_commonDivisor_9 ⟨⟨by decide, by decide⟩, fun y => absurd y (by omega), fun _ => ⟨⟨hb, by decide⟩, fun y => ?_, fun y => ⟨⟨ha, y, hb⟩, ?_⟩⟩⟩
    · have h1 : b = 0 := by omega
      have h2 : a = 0 := by omega
      subst h1; subst h2
      exact hp
    · exact l_cd hp 92 b (a % b) 1 (Nat.mod_lt a y) (Or.inl (by show b < fibn 93; omega)) hb (by omega) (by rw [Nat.gcd_comm a b, Nat.gcd_rec b a, Nat.gcd_comm])
theorem c_cm {a b : Nat} (ha : 0 < a ∧ a < 2 ^ 63) (hb : 0 < b ∧ b < 2 ^ 31) (hp : post (some (.long (lN (Nat.lcm a b)))) h nx) : Ct g M_X5_commonMultiple [.long (lN a), .int (nI b)] h nx post := by
  have hg : 0 < Nat.gcd a b := Nat.gcd_pos_of_pos_left _ ha.1
  have hgl : Nat.gcd a b ≤ a := Nat.gcd_le_left _ ha.1
  refine Ct.of (by decide +kernel) (Nat.le_of_ble_eq_true rfl) (v_X5_commonMultiple_0 ⟨hb.2, c_cd ha.2 (by omega) ⟨_, rfl, ⟨by decide, by omega⟩, ⟨ha.2, by omega, by omega⟩, hb.2, ?_⟩⟩)
  rw [Nat.max_eq_right hg]
  have e : a / Nat.gcd a b * b = Nat.lcm a b := by
    unfold Nat.lcm
    rw [Nat.mul_comm a b, Nat.mul_div_assoc _ (Nat.gcd_dvd_left a b), Nat.mul_comm]
  rw [e]
  exact hp
theorem pw_le {e : Nat → Nat} {k n : Nat} (h : k ≤ n) : pw e k ≤ pw e n := by
  have := tl_pw (s := e) (n - k) k
  rw [show k + (n - k) = n by omega] at this
  rw [← this]
  exact Nat.le_mul_of_pos_right _ (tl_pos _ _)
abbrev shOk (n : Nat) (p e q E : Nat → Nat) : Prop := (∀ s, s < n → q s * pw e 168 = p s * pw E 168) ∧ pw E 168 ∣ pw e 168
theorem l_short {r n : Nat} {p e : Nat → Nat} (h00 : xHp) (hB : pw e 168 < 1000000000 ^ 112) (hp : ∀ h' p' e', RowAt h' r n p' (pw e' 168) e' → shOk n p e p' e' → Off r (5 + 2 * n) h00 h' → post none h' nx) : ∀ (m k : Nat) (q E : Nat → Nat) (h : xHp), k + m = 168 → RowAt h r n q (pw E k) E → Off r (5 + 2 * n) h00 h → shOk n p e q E →
    Blk g M_X5_shorten post 10 [(0, .ref r), (1, .int (nI k))] [] h nx 0 0 := by
  have hB2 : pw e 168 < 2 ^ 4000 := Nat.lt_of_lt_of_le hB (by decide +kernel)
  intro m
  induction m with
  | zero =>
    intro k q E h hk hR hO hI
    obtain ⟨k0, k1, k2, k4, k5, k6⟩ := id hR
    have : k = 168 := by omega
    subst this
    exact v_X5_shorten_10 ⟨_, _, _, k1, _, _, k6, ⟨by decide, by decide⟩, fun _ => hp h q E hR hI hO, fun y => absurd y (by omega)⟩
  | succ m ih =>
    intro k q E h hk hR hO hI
    obtain ⟨k0, k1, k2, k4, k5, k6⟩ := id hR
    have hx := xpr_b k
    have bnd : ∀ E : Nat → Nat, pw E 168 ∣ pw e 168 → E k < 4000 := fun E hd => pw_exp (by omega) (Nat.lt_of_le_of_lt (Nat.le_of_dvd (pw_pos _) hd) hB2)
    -- the whole grows
    have grow : ∀ (d i : Nat) (q E : Nat → Nat) (h : xHp), E k - i = d → i ≤ E k → RowAt h r n q (pw E k * xpr k ^ i) E → Off r (5 + 2 * n) h00 h → shOk n p e q E → Blk g M_X5_shorten post 69 [(0, .ref r), (1, .int (nI k)), (2, .int (nI i))] [] h nx 0 0 := by
      intro d
      induction d with
      | zero =>
        intro i q E h hd hi hR hO hI
        obtain ⟨k0, k1, k2, k4, k5, k6⟩ := id hR
        have := bnd E hI.2
        have hie : i = E k := by omega
        subst hie
        exact v_X5_shorten_69 ⟨_, _, _, k1, _, _, k6, by omega, by decide, ⟨by omega, by omega⟩, fun _ => ih (k + 1) q E h (by omega) hR hO hI, fun y => absurd y (by omega)⟩
      | succ d ihd =>
        intro i q E h hd hi hR hO hI
        obtain ⟨k0, k1, k2, k4, k5, k6⟩ := id hR
        have := bnd E hI.2
        obtain ⟨u, hu⟩ := k5.obj
        have hle : pw E k * xpr k ^ i * xpr k ≤ pw e 168 := by
          have h1 : xpr k ^ (i + 1) ≤ xpr k ^ E k := Nat.pow_le_pow_right (by omega) (by omega)
          have h2 : pw E k * xpr k ^ (i + 1) ≤ pw E (k + 1) := Nat.mul_le_mul_left _ h1
          have h3 : pw E (k + 1) ≤ pw E 168 := pw_le (by omega)
          have h4 := Nat.le_of_dvd (pw_pos _) hI.2
          rw [Nat.mul_assoc, ← Nat.pow_succ]
          exact Nat.le_trans h2 (Nat.le_trans h3 h4)
        refine v_X5_shorten_69 ⟨_, _, _, k1, _, _, k6, by omega, by decide, ⟨by omega, by omega⟩, fun y => absurd y (by omega), fun _ => ⟨by omega, _, _, hu, c_multiply k5 (by omega) (by omega) (fun h1 hB1 hO1 => ⟨rfl, ?_⟩)⟩⟩
        refine ihd (i + 1) q E h1 (by omega) (by omega) ?_ (hO.tr (hO1.mono (by omega) (by omega))) hI
        rw [Nat.pow_succ, ← Nat.mul_assoc]
        exact hR.whole hO1 hB1
    -- common primes are taken out
    have take : ∀ (d : Nat) (q E : Nat → Nat) (h : xHp), E k = d → RowAt h r n q (pw E k) E → Off r (5 + 2 * n) h00 h → shOk n p e q E → Blk g M_X5_shorten post 26 [(0, .ref r), (1, .int (nI k)), (2, .int (nI d))] [] h nx 0 0 := by
      intro d
      induction d with
      | zero =>
        intro q E h hd hR hO hI
        exact v_X5_shorten_26 ⟨by decide, fun _ => grow (E k) 0 q E h rfl (Nat.zero_le _) (by rw [Nat.pow_zero, Nat.mul_one]; exact hR) hO hI, fun y => absurd y (by omega)⟩
      | succ d ihd =>
        intro q E h hd hR hO hI
        obtain ⟨k0, k1, k2, k4, k5, k6⟩ := id hR
        have := bnd E hI.2
        have hg : Blk g M_X5_shorten post 69 [(0, .ref r), (1, .int (nI k)), (2, .int (nI 0))] [] h nx 0 0 := grow (E k) 0 q E h rfl (Nat.zero_le _) (by rw [Nat.pow_zero, Nat.mul_one]; exact hR) hO hI
        refine v_X5_shorten_26 ⟨by omega, fun y => absurd y (by omega), fun _ => ⟨by omega, _, _, _, k1, c_allDivide hR ⟨by omega, by omega⟩ (fun hz => ⟨1, rfl, by decide, fun y => absurd y (by decide), fun _ => ⟨by omega, _, _, _, k1, c_divideAll hR ⟨by omega, by omega⟩ (fun h1 hR1 hO1 => ⟨rfl, ?_⟩)⟩⟩) (fun _ => ⟨0, rfl, by decide, fun _ => hg, fun y => absurd rfl y⟩)⟩⟩
        obtain ⟨j0, j1, j2, j4, j5, j6⟩ := id hR1
        refine ⟨_, _, _, j1, _, _, j6, by omega, by decide, by omega, by omega, by decide, by omega, ?_⟩
        rw [Nat.add_sub_cancel]
        have hdn := pw_dn1 (e := E) (k := k) (n := 168) (by omega) (by omega)
        refine ihd (fun s => q s / xpr k) (va_up E k (E k - 1)) _ (by rw [up_s]; omega) ?_ ((hO.tr hO1).up (by omega) (by omega)) ⟨fun s hs => ?_, ?_⟩
        · have e1 : pw (va_up E k (E k - 1)) k = pw E k := pw_congr fun i hi => up_n (by omega)
          rw [e1]
          exact hR1.pows
        · have h1 := hI.1 s hs
          have h2 : q s = q s / xpr k * xpr k := (Nat.div_mul_cancel (Nat.dvd_of_mod_eq_zero (hz s hs))).symm
          have h3 : q s / xpr k * pw e 168 * xpr k = p s * pw (va_up E k (E k - 1)) 168 * xpr k := by
            rw [← hdn] at h1
            have : q s / xpr k * pw e 168 * xpr k = q s * pw e 168 := by
              have h4 : q s * pw e 168 = q s / xpr k * xpr k * pw e 168 := by rw [← h2]
              rw [h4]
              grind
            rw [this, h1]
            grind
          exact Nat.eq_of_mul_eq_mul_right (by omega) h3
        · exact Nat.dvd_trans ⟨xpr k, hdn.symm⟩ hI.2
    exact v_X5_shorten_10 ⟨_, _, _, k1, _, _, k6, ⟨by omega, by decide⟩, fun y => absurd y (by omega), fun _ => ⟨by omega, by decide, take (E k) q E h rfl hR hO hI⟩⟩
theorem c_shorten {r n W : Nat} {p e : Nat → Nat} (hR : RowAt h r n p W e) (hB : pw e 168 < 1000000000 ^ 112) (hp : ∀ h' p' e', RowAt h' r n p' (pw e' 168) e' → shOk n p e p' e' → Off r (5 + 2 * n) h h' → post none h' nx) : Ct g M_X5_shorten [.ref r] h nx post := by
  obtain ⟨k0, k1, k2, k4, k5, k6⟩ := id hR
  obtain ⟨u, hu⟩ := k5.obj
  refine Ct.of (by decide +kernel) (Nat.le_of_ble_eq_true rfl) (v_X5_shorten_0 ⟨_, _, _, k1, _, _, hu, c_set k5 (by decide +kernel) (by decide) (fun h1 hB1 hO1 => ⟨rfl, ?_⟩)⟩)
  exact l_short h hB hp 168 0 p e h1 rfl (hR.whole hO1 hB1) (hO1.mono (by omega) (by omega)) ⟨fun s _ => rfl, Nat.dvd_refl _⟩
theorem l_rcopy {r r2 n W W2 : Nat} {p p2 e e2 : Nat → Nat} (h00 : xHp) (hR2 : RowAt h00 r2 n p2 W2 e2) (hd : r + 5 + 2 * n ≤ r2 ∨ r2 + 5 + 2 * n ≤ r) (hp : ∀ h' e', RowAt h' r n p2 W e' → pw e' 168 = pw e2 168 → Off r (5 + 2 * n) h00 h' → post none h' nx) : ∀ (m i : Nat) (h : xHp), n - i = m → i ≤ n → RowAt h r n (fun s => if s < i then p2 s else p s) W e → Off r (5 + 2 * n) h00 h → Blk g M_X5_copy post 2 [(0, .ref r), (1, .ref r2), (2, .int (nI i))] [] h nx 0 0 := by
  intro m
  induction m with
  | zero =>
    intro i h hm hi hR hO
    obtain ⟨k0, k1, ⟨F, k2, k3⟩, k4, k5, k6⟩ := id hR
    obtain ⟨j0, j1, ⟨F2, j2, j3⟩, j4, j5, j6⟩ := hR2.of hO (by omega)
    refine v_X5_copy_2 ⟨_, _, _, k1, _, _, k2, ⟨by omega, by omega⟩, fun _ => ⟨_, _, _, j1, _, _, k6, _, _, j6, by decide, ?_⟩, fun q => absurd q (by omega)⟩
    refine hp _ _ (hR.congr fun s hs => if_pos (by omega)).pows ?_ (hO.up (by omega) (by omega))
    refine pw_congr fun k hk => ?_
    rw [pk_cpy_in (by omega) (by omega)]
    congr 1
    omega
  | succ m ih =>
    intro i h hm hi hR hO
    obtain ⟨k0, k1, ⟨F, k2, k3⟩, k4, k5, k6⟩ := id hR
    obtain ⟨j0, j1, ⟨F2, j2, j3⟩, j4, j5, j6⟩ := hR2.of hO (by omega)
    have hB := k4 i (by omega)
    obtain ⟨u, hu⟩ := hB.obj
    refine v_X5_copy_2 ⟨_, _, _, k1, _, _, k2, ⟨by omega, by omega⟩, fun q => absurd q (by omega), fun _ => ⟨_, by omega, by omega, k3 i (by omega), _, _, _, j1, _, _, j2, _, by omega, by omega, j3 i (by omega), _, _, hu, c_copy hB (j4 i (by omega)) (by omega) (j4 i (by omega)).lt (fun h1 hB1 hO1 => ⟨rfl, ?_⟩)⟩⟩
    refine ih (i + 1) h1 (by omega) (by omega) ((hR.part (by omega) hO1 hB1).congr fun s hs => ?_) (hO.tr (hO1.mono (by omega) (by omega)))
    by_cases y : s = i
    · subst y
      rw [up_s, if_pos (by omega)]
    · rw [up_n y]
      by_cases z : s < i
      · rw [if_pos z, if_pos (by omega)]
      · rw [if_neg z, if_neg (by omega)]
theorem c_rcopy {r r2 n W W2 : Nat} {p p2 e e2 : Nat → Nat} (hR : RowAt h r n p W e) (hR2 : RowAt h r2 n p2 W2 e2) (hd : r + 5 + 2 * n ≤ r2 ∨ r2 + 5 + 2 * n ≤ r) (hp : ∀ h' e', RowAt h' r n p2 W e' → pw e' 168 = pw e2 168 → Off r (5 + 2 * n) h h' → post none h' nx) : Ct g M_X5_copy [.ref r, .ref r2] h nx post :=
  Ct.of (by decide +kernel) (Nat.le_of_ble_eq_true rfl) (v_X5_copy_0 (l_rcopy h hR2 hd hp n 0 h rfl (Nat.zero_le _) (hR.congr fun s _ => (if_neg (by omega)).symm) Off.rf))
/-- a part of what one state has goes to another one -/
def trf (f t a b : Nat) (p : Nat → Nat) : Nat → Nat := fun s => if s = f then p f * (b - a) else if s = t then p t * b + p f * a else p s * b
theorem l_trf {r n W f t a b : Nat} {p e : Nat → Nat} (h00 : xHp) (hf : f < n) (ht : t < n) (hft : f ≠ t) (hab : a ≤ b ∧ 0 < b ∧ b ≤ 1000) (hbd : ∀ s, s < n → trf f t a b p s < 1000000000 ^ 112 ∧ p s * b < 1000000000 ^ 112) (hp : ∀ h' e', RowAt h' r n (trf f t a b p) W e' → pw e' 168 = pw e 168 * b → Off r (5 + 2 * n) h00 h' → post none h' nx) : ∀ (m i : Nat) (h : xHp), n - i = m → i ≤ n → RowAt h r n (fun s => if s < i ∧ s ≠ f then p s * b else p s) W e → Off r (5 + 2 * n) h00 h → Blk g M_X5_transfer post 20 [(0, .ref r), (1, .int (nI f)), (2, .int (nI t)), (3, .int (nI a)), (4, .int (nI b)), (5, .int (nI i))] [] h nx 0 0 := by
  intro m
  induction m with
  | zero =>
    intro i h hm hi hR hO
    obtain ⟨k0, k1, ⟨F, k2, k3⟩, k4, k5, k6⟩ := id hR
    have hBt := k4 t ht
    have hBf := k4 f hf
    obtain ⟨u, hu⟩ := hBt.obj
    replace hBt : BigAt h (r + 2 + 2 * t) 112 (if t < i ∧ t ≠ f then p t * b else p t) := hBt
    replace hBf : BigAt h (r + 2 + 2 * f) 112 (if f < i ∧ f ≠ f then p f * b else p f) := hBf
    rw [if_pos (by omega)] at hBt
    rw [if_neg (by omega)] at hBf
    have x1 := (hbd t ht).1
    have e1 : trf f t a b p t = p t * b + p f * a := by
      unfold trf
      rw [if_neg (by omega), if_pos rfl]
    have x2 := (hbd f hf).1
    have e2 : trf f t a b p f = p f * (b - a) := if_pos rfl
    refine v_X5_transfer_20 ⟨_, _, _, k1, _, _, k2, ⟨by omega, by omega⟩, fun _ => ⟨_, ht, by omega, k3 t ht, _, hf, by omega, k3 f hf, _, _, hu, c_addProduct hBt hBf (by omega) (by omega) (by decide) (by rw [Nat.pow_zero, Nat.mul_one]; omega) (fun h1 hB1 hO1 => ⟨rfl, ?_⟩)⟩, fun q => absurd q (by omega)⟩
    rw [Nat.pow_zero, Nat.mul_one] at hB1
    have hR1 := hR.part ht hO1 hB1
    obtain ⟨j0, j1, ⟨F2, j2, j3⟩, j4, j5, j6⟩ := id hR1
    have hBf1 := j4 f hf
    obtain ⟨u1, hu1⟩ := hBf1.obj
    rw [up_n hft, if_neg (by omega)] at hBf1
    refine ⟨_, _, _, j1, _, _, j2, _, hf, by omega, j3 f hf, hab.1, _, _, hu1, c_multiply hBf1 (by omega) (by omega) (fun h2 hB2 hO2 => ⟨rfl, by omega, ?_⟩)⟩
    have hR2 := hR1.part hf hO2 hB2
    obtain ⟨i0, i1, i2, i4, i5, i6⟩ := id hR2
    refine ⟨_, _, _, i1, c_grow hR2 (smooth_le hab.2.1 hab.2.2) (by omega) (fun h3 e3 hR3 hE3 hO3 => ⟨rfl, hp h3 e3 (hR3.congr fun s hs => ?_) hE3 (((hO.tr (hO1.mono (by omega) (by omega))).tr (hO2.mono (by omega) (by omega))).tr hO3)⟩)⟩
    by_cases y : s = f
    · subst y; rw [up_s, e2]
    · rw [up_n y]
      by_cases z : s = t
      · subst z; rw [up_s, e1]
      · rw [up_n z, if_pos ⟨by omega, y⟩]
        unfold trf
        rw [if_neg y, if_neg z]
  | succ m ih =>
    intro i h hm hi hR hO
    obtain ⟨k0, k1, ⟨F, k2, k3⟩, k4, k5, k6⟩ := id hR
    have hB := k4 i (by omega)
    obtain ⟨u, hu⟩ := hB.obj
    replace hB : BigAt h (r + 2 + 2 * i) 112 (if i < i ∧ i ≠ f then p i * b else p i) := hB
    rw [if_neg (by omega)] at hB
    refine v_X5_transfer_20 ⟨_, _, _, k1, _, _, k2, ⟨by omega, by omega⟩, fun q => absurd q (by omega), fun _ => ⟨⟨by omega, by omega⟩, fun q => ?_, fun q => ⟨_, by omega, by omega, k3 i (by omega), _, _, hu, c_multiply hB (by omega) (hbd i (by omega)).2 (fun h1 hB1 hO1 => ⟨rfl, ?_⟩)⟩⟩⟩
    · refine ih (i + 1) h (by omega) (by omega) (hR.congr fun s hs => ?_) hO
      by_cases y : s < i ∧ s ≠ f
      · rw [if_pos y, if_pos ⟨by omega, y.2⟩]
      · rw [if_neg y, if_neg (by omega)]
    · refine ih (i + 1) h1 (by omega) (by omega) ((hR.part (by omega) hO1 hB1).congr fun s hs => ?_) (hO.tr (hO1.mono (by omega) (by omega)))
      by_cases y : s = i
      · subst y
        rw [up_s, if_pos ⟨by omega, by omega⟩]
      · rw [up_n y]
        by_cases z : s < i ∧ s ≠ f
        · rw [if_pos z, if_pos ⟨by omega, z.2⟩]
        · rw [if_neg z, if_neg (by omega)]
theorem c_transfer {r n W f t a b : Nat} {p e : Nat → Nat} (hR : RowAt h r n p W e) (hf : f < n) (ht : t < n) (hft : f ≠ t) (hab : a ≤ b ∧ 0 < b ∧ b ≤ 1000) (hbd : ∀ s, s < n → trf f t a b p s < 1000000000 ^ 112 ∧ p s * b < 1000000000 ^ 112) (hp : ∀ h' p' e' c, RowAt h' r n p' W e' → (c = 1 ∨ c = b) → pw e' 168 = pw e 168 * c → (∀ s, s < n → p' s * b = c * trf f t a b p s) → Off r (5 + 2 * n) h h' → post none h' nx) : Ct g M_X5_transfer [.ref r, .int (nI f), .int (nI t), .int (nI a), .int (nI b)] h nx post := by
  obtain ⟨k0, k1, ⟨F, k2, k3⟩, k4, k5, k6⟩ := id hR
  obtain ⟨u, hu⟩ := (k4 f hf).obj
  have noop : (a = 0 ∨ p f = 0) → post none h nx := by
    intro q
    refine hp h p e 1 hR (Or.inl rfl) (by omega) (fun s hs => ?_) Off.rf
    rw [Nat.one_mul]
    unfold trf
    by_cases y : s = f
    · rw [if_pos y]
      subst y
      rcases q with z | z
      · rw [z]; rfl
      · rw [z]; omega
    · rw [if_neg y]
      by_cases z : s = t
      · rw [if_pos z]
        subst z
        rcases q with z | z
        · rw [z]; rfl
        · rw [z]; omega
      · rw [if_neg z]
  refine Ct.of (by decide +kernel) (Nat.le_of_ble_eq_true rfl) (v_X5_transfer_0 ⟨by omega, fun q => noop (Or.inl q), fun q => ⟨_, _, _, k1, _, _, k2, _, hf, by omega, k3 f hf, _, _, hu, c_isZero (k4 f hf) ⟨_, rfl, ?_, fun y => ?_, fun y => ?_⟩⟩⟩)
  · by_cases z : p f = 0
    · rw [if_pos z]; decide
    · rw [if_neg z]; decide
  · exact l_trf h hf ht hft hab hbd (fun h' e' hR' hE' hO' => hp h' _ e' b hR' (Or.inr rfl) hE' (fun s _ => Nat.mul_comm _ _) hO') n 0 h rfl (Nat.zero_le _) (hR.congr fun s _ => (if_neg (by omega)).symm) Off.rf
  · refine noop (Or.inr ?_)
    by_cases z : p f = 0
    · exact z
    · rw [if_neg z] at y
      exact absurd rfl y
end ROW2
