/-! Big: a number by places in a block of two cells -/
def Off (lo n : Nat) (h h' : xHp) : Prop := ∀ b, b < lo ∨ lo + n ≤ b → h' b = h b
theorem Off.rf {lo n : Nat} {h : xHp} : Off lo n h h := fun _ _ => rfl
theorem Off.tr {lo n : Nat} {h h1 h2 : xHp} (a : Off lo n h h1) (b : Off lo n h1 h2) : Off lo n h h2 := fun q hq => (b q hq).trans (a q hq)
theorem Off.mono {lo n lo' n' : Nat} {h h1 : xHp} (a : Off lo n h h1) (h1' : lo' ≤ lo) (h2 : lo + n ≤ lo' + n') : Off lo' n' h h1 := fun q hq => a q (by omega)
theorem Off.up {lo n a : Nat} {h h1 : xHp} {e : xE} (k : Off lo n h h1) (h1' : lo ≤ a) (h2 : a < lo + n) : Off lo n h (xup h1 a e) := fun q hq => (xup_n (by omega)).trans (k q hq)
abbrev BgH (h : xHp) (a N u : Nat) (f : Nat → Nat) : Prop := h a = some (xo 1 [.ref (a + 1), .int (nI u)]) ∧ h (a + 1) = some (xna N f)
def bOk (N u : Nat) (f : Nat → Nat) (v : Nat) : Prop := u ≤ N ∧ N < 1048576 ∧ (∀ i, i < u → f i < 1000000000) ∧ topOk f u ∧ bv f u = v
def BigAt (h : xHp) (a N v : Nat) : Prop := ∃ (u : Nat) (f : Nat → Nat), BgH h a N u f ∧ bOk N u f v
theorem BgH.off {h h' : xHp} {a N u : Nat} {f : Nat → Nat} (k : BgH h a N u f) (e0 : h' a = h a) (e1 : h' (a + 1) = h (a + 1)) : BgH h' a N u f := ⟨e0.trans k.1, e1.trans k.2⟩
theorem BigAt.off {h h' : xHp} {a N v : Nat} (k : BigAt h a N v) (e0 : h' a = h a) (e1 : h' (a + 1) = h (a + 1)) : BigAt h' a N v := by
  obtain ⟨u, f, k1, k2⟩ := k
  exact ⟨u, f, k1.off e0 e1, k2⟩
theorem BigAt.of {h h' : xHp} {a N v lo n : Nat} (k : BigAt h a N v) (o : Off lo n h h') (q : a + 2 ≤ lo ∨ lo + n ≤ a) : BigAt h' a N v := k.off (o a (by omega)) (o (a + 1) (by omega))
theorem BgH.setU {h : xHp} {a N u u' : Nat} {f : Nat → Nat} (k : BgH h a N u f) : BgH (xup h a (xo 1 [.ref (a + 1), .int (nI u')])) a N u' f := ⟨xup_s _ _ _, (xup_n (by omega)).trans k.2⟩
theorem BgH.setF {h : xHp} {a N u : Nat} {f f' : Nat → Nat} (k : BgH h a N u f) : BgH (xup h (a + 1) (xna N f')) a N u f' := ⟨(xup_n (by omega)).trans k.1, xup_s _ _ _⟩
theorem bv_top {f : Nat → Nat} {n : Nat} (h : ∀ i, i < n + 1 → f i < 1000000000) (hv : 1000000000 ^ n ≤ bv f (n + 1)) : 0 < f n := by
  rcases Nat.eq_zero_or_pos (f n) with z | z
  · have h1 := bv_lt (f := f) (n := n) fun i hi => h i (by omega)
    have h2 : bv f (n + 1) = bv f n + f n * 1000000000 ^ n := rfl
    rw [z, Nat.zero_mul] at h2
    omega
  · exact z
theorem bOk.lt {N u v : Nat} {f : Nat → Nat} (k : bOk N u f v) : v < 1000000000 ^ u := by
  obtain ⟨_, _, k3, _, k5⟩ := k
  rw [← k5]
  exact bv_lt k3
theorem BigAt.lt {h : xHp} {a N v : Nat} (k : BigAt h a N v) : v < 1000000000 ^ N := by
  obtain ⟨u, f, _, k2⟩ := k
  exact Nat.lt_of_lt_of_le k2.lt (BBmono k2.1)
section BIG
variable {g : xG} {post : xPost} {h : xHp} {nx : Nat}
theorem c_isZero {a N v : Nat} (hB : BigAt h a N v) (hp : post (some (.int (nI (if v = 0 then 1 else 0)))) h nx) : Ct g M_X0_isZero [.ref a] h nx post := by
  obtain ⟨u, f, ⟨h1, h2⟩, k1, k2, k3, k4, k5⟩ := hB
  refine Ct.of (by decide +kernel) (Nat.le_of_ble_eq_true rfl) (v_X0_isZero_0 ⟨_, _, h1, by omega, fun q => ?_, fun q => ?_⟩)
  · rw [if_neg (fun z => q ((bv_zero_iff k4).mp (k5.trans z)))] at hp
    exact hp
  · rw [if_pos (k5.symm.trans ((bv_zero_iff k4).mpr q))] at hp
    exact hp
theorem c_nine {a N u i : Nat} {f : Nat → Nat} (hB : BgH h a N u f) (hu : u ≤ N ∧ N < 1048576) (hi : i < 2 ^ 31) (hp : post (some (.int (nI (if i < u then f i else 0)))) h nx) : Ct g M_X0_nine [.ref a, .int (nI i)] h nx post := by
  refine Ct.of (by decide +kernel) (Nat.le_of_ble_eq_true rfl) (v_X0_nine_0 ⟨hi, _, _, hB.1, ⟨hi, by omega⟩, fun q => ?_, fun q => ?_⟩)
  · rw [if_neg (by omega)] at hp
    exact hp
  · rw [if_pos q] at hp
    exact ⟨_, _, hB.2, by omega, by omega, hp⟩
/-- multiply: the places below i are done -/
theorem l_mul {a N k u v : Nat} {f0 : Nat → Nat} (h00 : xHp) (hk : k < 1000000000) (hk2 : 2 ≤ k) (hu : u ≤ N ∧ N < 1048576) (hd : ∀ i, i < u → f0 i < 1000000000) (ht : topOk f0 u) (hv : bv f0 u = v) (hvN : v * k < 1000000000 ^ N)
    (hp : ∀ h', BigAt h' a N (v * k) → Off a 2 h00 h' → post none h' nx) : ∀ (n i c : Nat) (f : Nat → Nat) (h : xHp), u - i = n → i ≤ u → BgH h a N u f → Off a 2 h00 h → (∀ j, i ≤ j → f j = f0 j) → (∀ j, j < i → f j < 1000000000) → c < 1000000000 → bv f i + c * 1000000000 ^ i = bv f0 i * k →
    Blk g M_X0_multiply post 21 [(0, .ref a), (1, .int (nI k)), (2, .long (lN c)), (4, .int (nI i))] [] h nx 0 0 := by
  intro n
  induction n with
  | zero =>
    intro i c f h hn hi hB hO hf hlt hc he
    have hiu : i = u := by omega
    subst hiu
    refine v_X0_multiply_21 ⟨_, _, hB.1, ⟨by omega, by omega⟩, fun _ => ⟨⟨by omega, by omega⟩, fun hc0 => ?_, fun hc0 => ?_⟩, fun q => absurd q (by omega)⟩
    · have hc1 : c = 0 := by omega
      subst hc1
      rw [Nat.zero_mul, Nat.add_zero, hv] at he
      refine hp h ⟨i, f, hB, hu.1, hu.2, hlt, ?_, he⟩ hO
      intro m hm
      subst hm
      refine bv_top hlt ?_
      have h1 := bv_ge (ht m rfl)
      rw [hv] at h1
      have h2 : v * 1 ≤ v * k := Nat.mul_le_mul_left v (by omega)
      omega
    · have hP := BBpos i
      have h3 : 1 * 1000000000 ^ i ≤ c * 1000000000 ^ i := Nat.mul_le_mul_right _ hc0
      have hiN : i < N := by
        apply BBlt
        rw [hv] at he
        omega
      refine ⟨_, _, hB.2, ⟨by omega, by omega⟩, fun q => absurd q (by omega), fun _ => ⟨hiN, by omega, ?_⟩⟩
      refine hp _ ⟨i + 1, va_up f i c, hB.setF.setU, by omega, hu.2, ?_, ?_, ?_⟩ ((hO.up (by omega) (by omega)).up (by omega) (by omega))
      · intro j hj
        by_cases q : j = i
        · subst q; rw [up_s]; exact hc
        · rw [up_n q]; exact hlt j (by omega)
      · intro m hm
        have : m = i := by omega
        subst this
        rw [up_s]; exact hc0
      · show bv (va_up f i c) i + va_up f i c i * 1000000000 ^ i = _
        rw [bv_up (Nat.le_refl _), up_s, he, hv]
  | succ n ih =>
    intro i c f h hn hi hB hO hf hlt hc he
    have hfi : f i = f0 i := hf i (Nat.le_refl _)
    have hdi : f0 i < 1000000000 := hd i (by omega)
    have hm1 : f0 i * k ≤ (1000000000 - 1) * (1000000000 - 1) := Nat.mul_le_mul (by omega) (by omega)
    have hs : f i * k + c < 1000000000 * 1000000000 := by rw [hfi]; omega
    have hdm := Nat.div_add_mod (f i * k + c) 1000000000
    have hml : (f i * k + c) / 1000000000 * 1000000000 ≤ f i * k + c := Nat.div_mul_le_self _ _
    refine v_X0_multiply_21 ⟨_, _, hB.1, ⟨by omega, by omega⟩, fun q => absurd q (by omega), fun _ => ⟨_, _, hB.2, by omega, by omega, by rw [hfi]; omega, by omega, ⟨by omega, by decide, by decide⟩, hml, by omega, by omega, ?_⟩⟩
    have hq : (f i * k + c) / 1000000000 < 1000000000 := Nat.div_lt_of_lt_mul hs
    have hr : f i * k + c - (f i * k + c) / 1000000000 * 1000000000 = (f i * k + c) % 1000000000 := by omega
    rw [hr]
    have hrlt : (f i * k + c) % 1000000000 < 1000000000 := Nat.mod_lt _ (by decide)
    refine ih (i + 1) _ (va_up f i ((f i * k + c) % 1000000000)) _ (by omega) (by omega) hB.setF (hO.up (by omega) (by omega)) ?_ ?_ hq ?_
    · intro j hj
      rw [up_n (by omega)]
      exact hf j (by omega)
    · intro j hj
      by_cases q : j = i
      · subst q; rw [up_s]; exact hrlt
      · rw [up_n q]; exact hlt j (by omega)
    · show (bv (va_up f i ((f i * k + c) % 1000000000)) i + va_up f i ((f i * k + c) % 1000000000) i * 1000000000 ^ i) + (f i * k + c) / 1000000000 * 1000000000 ^ (i + 1) = (bv f0 i + f0 i * 1000000000 ^ i) * k
      rw [bv_up (Nat.le_refl _), up_s, Nat.pow_succ]
      refine bv_mulstep he ?_
      rw [← hfi]
      omega
theorem c_multiply {a N v k : Nat} (hB : BigAt h a N v) (hk : k < 1000000000) (hv : v * k < 1000000000 ^ N) (hp : ∀ h', BigAt h' a N (v * k) → Off a 2 h h' → post none h' nx) : Ct g M_X0_multiply [.ref a, .int (nI k)] h nx post := by
  have hB0 := hB
  obtain ⟨u, f, hH, k1, k2, k3, k4, k5⟩ := hB
  refine Ct.of (by decide +kernel) (Nat.le_of_ble_eq_true rfl) (v_X0_multiply_0 ⟨by omega, fun q0 => ⟨⟨by omega, by omega⟩, fun q1 => ?_, fun q1 => ?_⟩, fun q0 => ?_⟩)
  · exact l_mul h hk (by omega) ⟨k1, k2⟩ k3 k4 k5 hv hp u 0 0 f h (by omega) (by omega) hH Off.rf (fun _ _ => rfl) (fun _ hj => absurd hj (by omega)) (by decide) (by show 0 + 0 * _ = 0 * _; omega)
  · subst q1
    rw [Nat.mul_one] at hp
    exact hp h hB0 Off.rf
  · subst q0
    rw [Nat.mul_zero] at hp
    exact ⟨_, _, hH.1, hp _ ⟨0, f, hH.setU, by omega, k2, fun _ hj => absurd hj (by omega), fun m hm => absurd hm (by omega), rfl⟩ (Off.rf.up (by omega) (by omega))⟩
end BIG
