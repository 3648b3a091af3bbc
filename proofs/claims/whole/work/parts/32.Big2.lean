/-! Big: set, copy, digits, remainder, divide, compare, subtract -/
theorem bv_add {f e : Nat → Nat} : ∀ n : Nat, bv (fun j => f j + e j) n = bv f n + bv e n
  | 0 => rfl
  | n + 1 => by
    show bv (fun j => f j + e j) n + (f n + e n) * 1000000000 ^ n = (bv f n + f n * 1000000000 ^ n) + (bv e n + e n * 1000000000 ^ n)
    rw [bv_add n, Nat.add_mul]
    omega
def cut0 (u : Nat) (f : Nat → Nat) : Nat → Nat := fun j => if j < u then f j else 0
theorem bv_cut_le {f : Nat → Nat} {u n : Nat} (h : n ≤ u) : bv (cut0 u f) n = bv f n := bv_congr fun i hi => if_pos (by omega)
theorem bv_cut {f : Nat → Nat} {u : Nat} : ∀ n : Nat, u ≤ n → bv (cut0 u f) n = bv f u
  | 0, h => by
    have : u = 0 := by omega
    subst this
    rfl
  | n + 1, h => by
    by_cases q : u = n + 1
    · subst q
      exact bv_cut_le (Nat.le_refl _)
    · show bv (cut0 u f) n + cut0 u f n * 1000000000 ^ n = bv f u
      rw [bv_cut n (by omega), show cut0 u f n = 0 from if_neg (by omega)]
      omega
/-- a number by what lies below place i and what lies from there on -/
theorem bv_split {f : Nat → Nat} {i : Nat} : ∀ u : Nat, i ≤ u → ∃ H, bv f u = bv f i + H * 1000000000 ^ i
  | 0, h => ⟨0, by have : i = 0 := by omega
                   subst this; rfl⟩
  | u + 1, h => by
    by_cases q : i = u + 1
    · subst q
      exact ⟨0, by omega⟩
    · obtain ⟨H, hH⟩ := bv_split (f := f) (i := i) u (by omega)
      refine ⟨H + f u * 1000000000 ^ (u - i), ?_⟩
      show bv f u + f u * 1000000000 ^ u = _
      have e : (1000000000 : Nat) ^ u = 1000000000 ^ (u - i) * 1000000000 ^ i := by rw [← Nat.pow_add]; congr 1; omega
      rw [hH, e, Nat.add_mul, Nat.mul_assoc]
      omega
theorem bv_div {f : Nat → Nat} {i H v : Nat} (hd : ∀ j, j < i → f j < 1000000000) (h : v = bv f i + H * 1000000000 ^ i) : v / 1000000000 ^ i = H := by
  have h1 := bv_lt hd
  rw [h, Nat.add_mul_div_right _ _ (BBpos i), Nat.div_eq_of_lt h1, Nat.zero_add]
theorem bv_digit {f : Nat → Nat} {u i : Nat} (hd : ∀ j, j < u → f j < 1000000000) : bv f u / 1000000000 ^ i % 1000000000 = if i < u then f i else 0 := by
  by_cases q : i < u
  · rw [if_pos q]
    obtain ⟨H, hH⟩ := bv_split (f := f) (i := i + 1) u q
    have e : bv f u = bv f i + (f i + H * 1000000000) * 1000000000 ^ i := by
      rw [hH, Nat.pow_succ]
      show bv f i + f i * 1000000000 ^ i + _ = _
      grind
    rw [bv_div (fun j hj => hd j (by omega)) e, Nat.add_mul_mod_self_right, Nat.mod_eq_of_lt (hd i q)]
  · rw [if_neg q, Nat.div_eq_of_lt (Nat.lt_of_lt_of_le (bv_lt hd) (BBmono (by omega)))]
section BIG2
variable {g : xG} {post : xPost} {h : xHp} {nx : Nat}
theorem l_set {a N v : Nat} (h00 : xHp) (hN : N < 1048576) (hv : v < 1000000000 ^ N) (hv2 : v < 2 ^ 63) (hp : ∀ h', BigAt h' a N v → Off a 2 h00 h' → post none h' nx) : ∀ (n r u : Nat) (f : Nat → Nat) (h : xHp), r ≤ n → BgH h a N u f → Off a 2 h00 h → u ≤ N → (∀ j, j < u → f j < 1000000000) → bv f u + r * 1000000000 ^ u = v → (r = 0 → topOk f u) →
    Blk g M_X0_set post 7 [(0, .ref a), (3, .long (lN r))] [] h nx 0 0 := by
  intro n
  induction n with
  | zero =>
    intro r u f h hr hB hO hu hlt he ht
    have : r = 0 := by omega
    subst this
    exact v_X0_set_7 ⟨⟨by decide, by decide⟩, fun _ => hp h ⟨u, f, hB, hu, hN, hlt, ht rfl, by omega⟩ hO, fun q => absurd q (by omega)⟩
  | succ n ih =>
    intro r u f h hr hB hO hu hlt he ht
    have hP := BBpos u
    have hrv : r * 1 ≤ r * 1000000000 ^ u := Nat.mul_le_mul_left r hP
    refine v_X0_set_7 ⟨⟨by omega, by decide⟩, fun q => ?_, fun q => ?_⟩
    · have : r = 0 := by omega
      subst this
      exact hp h ⟨u, f, hB, hu, hN, hlt, ht rfl, by omega⟩ hO
    · have huN : u < N := by
        apply BBlt
        have : 1 * 1000000000 ^ u ≤ r * 1000000000 ^ u := Nat.mul_le_mul_right _ q
        omega
      refine ⟨_, _, hB.1, _, _, hB.2, ⟨by omega, by omega⟩, fun z => absurd z (by omega), fun _ => ⟨⟨by omega, by decide, by decide⟩, huN, by omega, ⟨by omega, by decide, by decide⟩, ?_⟩⟩
      have hm : r % 1000000000 < 1000000000 := Nat.mod_lt _ (by decide)
      refine ih (r / 1000000000) (u + 1) (va_up f u (r % 1000000000)) _ (by omega) hB.setF.setU ((hO.up (by omega) (by omega)).up (by omega) (by omega)) (by omega) ?_ ?_ ?_
      · intro j hj
        by_cases z : j = u
        · subst z; rw [up_s]; exact hm
        · rw [up_n z]; exact hlt j (by omega)
      · show bv (va_up f u (r % 1000000000)) u + va_up f u (r % 1000000000) u * 1000000000 ^ u + r / 1000000000 * 1000000000 ^ (u + 1) = v
        rw [bv_up (Nat.le_refl _), up_s, Nat.pow_succ, ← he]
        have e : r = r / 1000000000 * 1000000000 + r % 1000000000 := by omega
        have e2 : r * 1000000000 ^ u = (r / 1000000000 * 1000000000 + r % 1000000000) * 1000000000 ^ u := by rw [← e]
        grind
      · intro z m hm2
        have : m = u := by omega
        subst this
        rw [up_s]
        omega
theorem c_set {a N v0 v : Nat} (hB : BigAt h a N v0) (hv : v < 1000000000 ^ N) (hv2 : v < 2 ^ 63) (hp : ∀ h', BigAt h' a N v → Off a 2 h h' → post none h' nx) : Ct g M_X0_set [.ref a, .long (lN v)] h nx post := by
  obtain ⟨u, f, hH, k1, k2, k3, k4, k5⟩ := hB
  exact Ct.of (by decide +kernel) (Nat.le_of_ble_eq_true rfl) (v_X0_set_0 ⟨_, _, hH.1, l_set h k2 hv hv2 hp v v 0 f _ (Nat.le_refl _) hH.setU (Off.rf.up (by omega) (by omega)) (Nat.zero_le _) (fun _ hj => absurd hj (by omega)) (by show 0 + v * 1 = v; omega) (fun _ m hm => absurd hm (by omega))⟩)
theorem c_copy {a b N Nb v v0 : Nat} (hA : BigAt h a N v0) (hB : BigAt h b Nb v) (hab : a + 2 ≤ b ∨ b + 2 ≤ a) (hv : v < 1000000000 ^ N) (hp : ∀ h', BigAt h' a N v → Off a 2 h h' → post none h' nx) : Ct g M_X0_copy [.ref a, .ref b] h nx post := by
  obtain ⟨u, f, hH, k1, k2, k3, k4, k5⟩ := hA
  obtain ⟨w, e, hE, m1, m2, m3, m4, m5⟩ := hB
  have hw : w ≤ N := bv_used m4 (by rw [m5]; exact hv)
  have hmin : min w N = w := Nat.min_eq_left hw
  refine Ct.of (by decide +kernel) (Nat.le_of_ble_eq_true rfl) (v_X0_copy_0 ⟨_, _, hE.1, _, _, hH.1, _, _, hH.2, ⟨by omega, by omega⟩, by omega, _, _, hE.2, ?_, ?_⟩)
  · rw [hmin]
    omega
  · rw [hmin]
    have hB2 : BgH (xup (xup h a (xo 1 [.ref (a + 1), .int (nI w)])) (a + 1) (xna N (va_cpy e f 0 0 w))) a N w (va_cpy e f 0 0 w) := (hH.setU (u' := w)).setF
    have hc : ∀ j, j < w → va_cpy e f 0 0 w j = e j := fun j hj => by
      rw [pk_cpy_in (by omega) (by omega)]
      congr 1
      omega
    refine hp _ ⟨w, _, hB2, hw, k2, fun j hj => by rw [hc j hj]; exact m3 j hj, fun m hm => by rw [hc m (by omega)]; exact m4 m hm, ?_⟩ ((Off.rf.up (by omega) (by omega)).up (by omega) (by omega))
    rw [← m5]
    exact bv_congr hc
theorem c_eighteen {a N v k : Nat} (hB : BigAt h a N v) (hk : k < 2 ^ 31) (hp : post (some (.long (lN (v / 1000000000 ^ (2 * k) % 1000000000000000000)))) h nx) : Ct g M_X0_eighteenDigits [.ref a, .int (nI k)] h nx post := by
  obtain ⟨u, f, hH, k1, k2, k3, k4, k5⟩ := hB
  have d0 := bv_digit (u := u) (i := 2 * k) k3
  have d1 := bv_digit (u := u) (i := 2 * k + 1) k3
  rw [k5] at d0 d1
  rw [Nat.pow_succ, ← Nat.div_div_eq_div_mul] at d1
  have l0 : (if 2 * k < u then f (2 * k) else 0) < 1000000000 := by rw [← d0]; exact Nat.mod_lt _ (by decide)
  have l1 : (if 2 * k + 1 < u then f (2 * k + 1) else 0) < 1000000000 := by rw [← d1]; exact Nat.mod_lt _ (by decide)
  refine Ct.of (by decide +kernel) (Nat.le_of_ble_eq_true rfl) (v_X0_eighteenDigits_0 ⟨hk, _, _, hH.1, _, _, hH.2, ⟨hk, by omega⟩, fun q => ?_, fun q => ?_⟩)
  · refine c_nine hH ⟨k1, k2⟩ (by omega) ⟨_, rfl, by omega, _, _, hH.1, ?_⟩
    refine c_nine hH ⟨k1, k2⟩ (by omega) ⟨_, rfl, by omega, ?_⟩
    have e : (if 2 * k < u then f (2 * k) else 0) + 1000000000 * (if 2 * k + 1 < u then f (2 * k + 1) else 0) = v / 1000000000 ^ (2 * k) % 1000000000000000000 := by
      rw [← d0, ← d1]
      omega
    rw [e]
    exact hp
  · have : v / 1000000000 ^ (2 * k) = 0 := Nat.div_eq_of_lt (by rw [← k5]; exact Nat.lt_of_lt_of_le (bv_lt k3) (BBmono (by omega)))
    rw [this] at hp
    exact hp
theorem l_rem {a N u d v : Nat} {f : Nat → Nat} (hB : BgH h a N u f) (hN : u ≤ N ∧ N < 1048576) (hd : 0 < d ∧ d < 1000000000) (hl : ∀ i, i < u → f i < 1000000000) (hv : bv f u = v) (hp : post (some (.int (nI (v % d)))) h nx) : ∀ (i r H : Nat), i ≤ u → v = bv f i + H * 1000000000 ^ i → r = H % d → Blk g M_X0_remainder post 10 [(0, .ref a), (1, .int (nI d)), (2, .long (lN r)), (4, .int (nI i - nI 1))] [] h nx 0 0 := by
  intro i
  induction i with
  | zero =>
    intro r H hi he hr
    have e : v = H := by
      rw [he]
      show 0 + H * 1 = H
      omega
    refine v_X0_remainder_10 ⟨by decide, fun _ => ?_, fun q => absurd q (by omega)⟩
    rw [hr, ← e]
    exact hp
  | succ i ih =>
    intro r H hi he hr
    have hfi := hl i (by omega)
    have hrd : r < d := by rw [hr]; exact Nat.mod_lt _ hd.1
    refine v_X0_remainder_10 ⟨by omega, fun q => absurd q (by omega), fun _ => ⟨by omega, fun q => absurd q (by omega), fun _ => ⟨_, _, hB.1, _, _, hB.2, by omega, by show i + 1 - 1 < N; omega, by omega, by show f (i + 1 - 1) < 2 ^ 31; rw [Nat.add_sub_cancel]; omega, by omega, ⟨by rw [Nat.add_sub_cancel]; omega, by omega, by omega⟩, by omega, ?_⟩⟩⟩
    rw [Nat.add_sub_cancel]
    refine ih _ (H * 1000000000 + f i) (by omega) ?_ ?_
    · rw [he, Nat.pow_succ]
      show bv f i + f i * 1000000000 ^ i + _ = _
      grind
    · rw [hr, Nat.add_mod, Nat.mul_mod, Nat.mod_mod, ← Nat.mul_mod, ← Nat.add_mod]
theorem c_remainder {a N v d : Nat} (hB : BigAt h a N v) (hd : 0 < d ∧ d < 1000000000) (hp : post (some (.int (nI (v % d)))) h nx) : Ct g M_X0_remainder [.ref a, .int (nI d)] h nx post := by
  obtain ⟨u, f, hH, k1, k2, k3, k4, k5⟩ := hB
  exact Ct.of (by decide +kernel) (Nat.le_of_ble_eq_true rfl) (v_X0_remainder_0 ⟨_, _, hH.1, l_rem hH ⟨k1, k2⟩ hd k3 k5 hp u 0 0 (Nat.le_refl _) (by omega) (by rw [Nat.zero_mod])⟩)
theorem l_div {a N u d v : Nat} {f0 : Nat → Nat} (h00 : xHp) (hN : u ≤ N ∧ N < 1048576) (hd : 0 < d ∧ d < 1000000000) (hl : ∀ i, i < u → f0 i < 1000000000) (ht : topOk f0 u) (hv : bv f0 u = v) (hp : ∀ h', BigAt h' a N (v / d) → Off a 2 h00 h' → post none h' nx) : ∀ (i r Hq Q : Nat) (f : Nat → Nat) (h : xHp), i ≤ u → BgH h a N u f → Off a 2 h00 h → (∀ j, j < i → f j = f0 j) → (∀ j, j < u → f j < 1000000000) → v = bv f0 i + Hq * 1000000000 ^ i → bv f u = bv f i + Q * 1000000000 ^ i → Hq = Q * d + r → r < d → Blk g M_X0_divide post 10 [(0, .ref a), (1, .int (nI d)), (2, .long (lN r)), (4, .int (nI i - nI 1))] [] h nx 0 0 := by
  intro i
  induction i with
  | zero =>
    intro r Hq Q f h hi hB hO hf hlt he hq hr hrd
    have e1 : v = Hq := by
      rw [he]
      show 0 + Hq * 1 = Hq
      omega
    have e2 : bv f u = Q := by
      rw [hq]
      show 0 + Q * 1 = Q
      omega
    have e3 : v / d = Q := by
      rw [e1, hr, Nat.mul_comm, Nat.mul_add_div hd.1, Nat.div_eq_of_lt hrd, Nat.add_zero]
    refine v_X0_divide_10 ⟨by decide, fun _ => ⟨_, _, hB.1, by omega, fun z => ?_, fun z => ⟨z, _, _, hB.2, by omega, by omega, ?_, fun y => ?_, fun y => ⟨z, ?_⟩⟩⟩, fun q => absurd q (by omega)⟩
    · refine hp h ⟨u, f, hB, hN.1, hN.2, hlt, fun m hm => absurd hm (by omega), by rw [e2, e3]⟩ hO
    · have := hlt (u - 1) (by omega)
      omega
    · refine hp h ⟨u, f, hB, hN.1, hN.2, hlt, fun m hm => ?_, by rw [e2, e3]⟩ hO
      have : m = u - 1 := by omega
      subst this
      omega
    · obtain ⟨w, rfl⟩ : ∃ w, u = w + 1 := ⟨u - 1, by omega⟩
      rw [Nat.add_sub_cancel] at y ⊢
      have e4 : bv f w = Q := by
        rw [← e2]
        show bv f w = bv f w + f w * 1000000000 ^ w
        rw [y]
        omega
      refine hp _ ⟨w, f, hB.setU, by omega, hN.2, fun j hj => hlt j (by omega), fun m hm => ?_, by rw [e4, e3]⟩ (hO.up (by omega) (by omega))
      subst hm
      refine bv_top (fun j hj => hlt j (by omega)) ?_
      rw [e4, ← e3]
      have h1 := bv_ge (ht (m + 1) rfl)
      rw [hv, Nat.pow_succ] at h1
      rw [Nat.le_div_iff_mul_le hd.1]
      have h2 : 1000000000 ^ m * d ≤ 1000000000 ^ m * 1000000000 := Nat.mul_le_mul_left _ (by omega)
      omega
  | succ i ih =>
    intro r Hq Q f h hi hB hO hf hlt he hq hr hrd
    have hfi := hlt i (by omega)
    have hf0 : f i = f0 i := hf i (by omega)
    refine v_X0_divide_10 ⟨by omega, fun q => absurd q (by omega), fun _ => ⟨by omega, fun q => absurd q (by omega), fun _ => ⟨_, _, hB.1, _, _, hB.2, by omega, by omega, by omega, by rw [Nat.add_sub_cancel]; omega, by omega, ⟨by rw [Nat.add_sub_cancel]; omega, by omega, by omega⟩, by omega, by omega, by omega, by omega, ⟨by rw [Nat.add_sub_cancel]; omega, by omega, by omega⟩, by omega, ?_⟩⟩⟩
    rw [Nat.add_sub_cancel]
    have hdm := Nat.div_add_mod (r * 1000000000 + f i) d
    have hql : (r * 1000000000 + f i) / d < 1000000000 := by
      rw [Nat.div_lt_iff_lt_mul hd.1]
      have : (r + 1) * 1000000000 ≤ d * 1000000000 := Nat.mul_le_mul_right _ hrd
      omega
    refine ih _ (Hq * 1000000000 + f0 i) (Q * 1000000000 + (r * 1000000000 + f i) / d) (va_up f i ((r * 1000000000 + f i) / d)) _ (by omega) hB.setF (hO.up (by omega) (by omega)) ?_ ?_ ?_ ?_ ?_ (Nat.mod_lt _ hd.1)
    · intro j hj
      rw [up_n (by omega)]
      exact hf j (by omega)
    · intro j hj
      by_cases z : j = i
      · subst z; rw [up_s]; exact hql
      · rw [up_n z]; exact hlt j hj
    · rw [he, Nat.pow_succ]
      show bv f0 i + f0 i * 1000000000 ^ i + _ = _
      grind
    · rw [bv_up (Nat.le_refl _)]
      obtain ⟨H1, hH1⟩ := bv_split (f := f) (i := i + 1) u hi
      obtain ⟨H2, hH2⟩ := bv_split (f := va_up f i ((r * 1000000000 + f i) / d)) (i := i + 1) u hi
      have hQ : H1 = Q := by
        have := Nat.add_left_cancel (hH1.symm.trans hq)
        exact Nat.eq_of_mul_eq_mul_right (BBpos (i + 1)) this
      have hHH : H2 = H1 := by
        have x1 : ∀ w, i + 1 ≤ w → bv (va_up f i ((r * 1000000000 + f i) / d)) w + f i * 1000000000 ^ i = bv f w + (r * 1000000000 + f i) / d * 1000000000 ^ i := by
          intro w hw
          induction w with
          | zero => omega
          | succ w ihw =>
            by_cases z : i = w
            · subst z
              show bv (va_up f i _) i + va_up f i _ i * 1000000000 ^ i + _ = bv f i + f i * 1000000000 ^ i + _
              rw [bv_up (Nat.le_refl _), up_s]
              omega
            · have := ihw (by omega)
              show bv (va_up f i _) w + va_up f i _ w * 1000000000 ^ w + _ = bv f w + f w * 1000000000 ^ w + _
              rw [up_n (by omega)]
              omega
        have x2 := x1 u hi
        have x3 := x1 (i + 1) (Nat.le_refl _)
        rw [hH1, hH2] at x2
        have x4 : H2 * 1000000000 ^ (i + 1) = H1 * 1000000000 ^ (i + 1) := by omega
        exact Nat.eq_of_mul_eq_mul_right (BBpos (i + 1)) x4
      rw [hH2, hHH, hQ, Nat.pow_succ]
      show bv (va_up f i _) i + va_up f i _ i * 1000000000 ^ i + _ = _
      rw [bv_up (Nat.le_refl _), up_s]
      grind
    · rw [hr, hf0] 
      rw [hf0] at hdm
      grind
theorem c_divide {a N v d : Nat} (hB : BigAt h a N v) (hd : 0 < d ∧ d < 1000000000) (hp : ∀ h', BigAt h' a N (v / d) → Off a 2 h h' → post none h' nx) : Ct g M_X0_divide [.ref a, .int (nI d)] h nx post := by
  obtain ⟨u, f, hH, k1, k2, k3, k4, k5⟩ := hB
  exact Ct.of (by decide +kernel) (Nat.le_of_ble_eq_true rfl) (v_X0_divide_0 ⟨_, _, hH.1, l_div h ⟨k1, k2⟩ hd k3 k4 k5 hp u 0 0 0 f h (Nat.le_refl _) hH Off.rf (fun _ _ => rfl) k3 (by omega) (by omega) (by omega) hd.1⟩)
end BIG2
