/-! numbers by places, 1000000000 a place -/
def bv (f : Nat → Nat) : Nat → Nat
  | 0 => 0
  | n + 1 => bv f n + f n * 1000000000 ^ n
theorem bv_congr {f f' : Nat → Nat} : ∀ {n : Nat}, (∀ i, i < n → f i = f' i) → bv f n = bv f' n
  | 0, _ => rfl
  | n + 1, h => by
    show bv f n + f n * 1000000000 ^ n = bv f' n + f' n * 1000000000 ^ n
    rw [bv_congr (fun i hi => h i (Nat.lt_succ_of_lt hi)), h n (Nat.lt_succ_self n)]
theorem bv_up {f : Nat → Nat} {j x n : Nat} (h : n ≤ j) : bv (va_up f j x) n = bv f n := bv_congr fun i hi => if_neg (by omega)
theorem up_s {α : Type} {f : Nat → α} {j : Nat} {x : α} : va_up f j x j = x := if_pos rfl
theorem up_n {α : Type} {f : Nat → α} {j i : Nat} {x : α} (h : i ≠ j) : va_up f j x i = f i := if_neg h
theorem bv_lt {f : Nat → Nat} : ∀ {n : Nat}, (∀ i, i < n → f i < 1000000000) → bv f n < 1000000000 ^ n
  | 0, _ => Nat.one_pos
  | n + 1, h => by
    have h1 := bv_lt (f := f) (n := n) fun i hi => h i (Nat.lt_succ_of_lt hi)
    have h2 := h n (Nat.lt_succ_self n)
    show bv f n + f n * 1000000000 ^ n < 1000000000 ^ (n + 1)
    have h3 : f n * 1000000000 ^ n ≤ (1000000000 - 1) * 1000000000 ^ n := Nat.mul_le_mul_right _ (by omega)
    have h4 : 1000000000 ^ (n + 1) = (1000000000 - 1) * 1000000000 ^ n + 1000000000 ^ n := by rw [Nat.pow_succ]; grind
    omega
theorem bv_ge {f : Nat → Nat} {n : Nat} (h : 0 < f n) : 1000000000 ^ n ≤ bv f (n + 1) := by
  show 1000000000 ^ n ≤ bv f n + f n * 1000000000 ^ n
  have := Nat.le_mul_of_pos_left (1000000000 ^ n) h
  omega
theorem BBpos (n : Nat) : 0 < 1000000000 ^ n := Nat.pow_pos (by decide)
theorem BBmono {a b : Nat} (h : a ≤ b) : 1000000000 ^ a ≤ 1000000000 ^ b := Nat.pow_le_pow_right (by decide) h
theorem BBlt {a b : Nat} (h : 1000000000 ^ a < 1000000000 ^ b) : a < b := by
  rcases Nat.lt_or_ge a b with q | q
  · exact q
  · exact absurd (BBmono q) (Nat.not_le.mpr h)
/-- a step of a product by a short factor -/
theorem bv_mulstep {a d k c P D q r : Nat} (h : a + c * P = D * k) (e : d * k + c = q * 1000000000 + r) : (a + r * P) + q * (P * 1000000000) = (D + d * P) * k := by
  have e2 : (d * k + c) * P = (q * 1000000000 + r) * P := by rw [e]
  grind
/-- top place not 0 -/
def topOk (f : Nat → Nat) (u : Nat) : Prop := ∀ n, u = n + 1 → 0 < f n
theorem bv_zero_iff {f : Nat → Nat} {u : Nat} (h : topOk f u) : bv f u = 0 ↔ u = 0 := by
  constructor
  · intro q
    match u, h, q with
    | 0, _, _ => rfl
    | n + 1, h, q =>
      have := bv_ge (h n rfl)
      have := BBpos n
      omega
  · intro q
    subst q
    rfl
theorem bv_used {f : Nat → Nat} {u N : Nat} (h : topOk f u) (hv : bv f u < 1000000000 ^ N) : u ≤ N := by
  match u, h, hv with
  | 0, _, _ => exact Nat.zero_le _
  | n + 1, h, hv => exact BBlt (Nat.lt_of_le_of_lt (bv_ge (h n rfl)) hv)
