/-! the primes of the row, and products of their powers -/
theorem xpr_tab : ∀ k, k < 168 → 2 ≤ xpr k ∧ xpr k < 1000 := by decide +kernel
theorem xpr_out {k : Nat} (h : 168 ≤ k) : xpr k = 2 := by
  unfold xpr
  rw [List.getD_eq_getElem?_getD, List.getElem?_eq_none (by show 168 ≤ k; exact h)]
  rfl
theorem xpr_b (k : Nat) : 2 ≤ xpr k ∧ xpr k < 1000 := by
  rcases Nat.lt_or_ge k 168 with q | q
  · exact xpr_tab k q
  · rw [xpr_out q]; decide
theorem xpr_div : ∀ k, k < 168 → ∀ d, d < 32 → 2 ≤ d → xpr k % d = 0 → d = xpr k := by decide +kernel
theorem xpr_inc1 : ∀ k, k < 167 → xpr k < xpr (k + 1) := by decide +kernel
theorem xpr_inc {j : Nat} : ∀ {k : Nat}, k < 168 → j < k → xpr j < xpr k
  | 0, _, h => absurd h (by omega)
  | k + 1, hk, h => by
    have h1 := xpr_inc1 k (by omega)
    rcases Nat.lt_or_ge j k with q | q
    · exact Nat.lt_trans (xpr_inc (by omega) q) h1
    · have : j = k := by omega
      subst this
      exact h1
theorem xpr_dvd {k g : Nat} (hk : k < 168) (h : g ∣ xpr k) : g = 1 ∨ g = xpr k := by
  obtain ⟨c, hc⟩ := h
  have hb := xpr_b k
  have g0 : 0 < g := Nat.pos_of_ne_zero (by intro z; subst z; omega)
  have c0 : 0 < c := Nat.pos_of_ne_zero (by intro z; subst z; omega)
  by_cases g1 : g = 1
  · exact Or.inl g1
  by_cases c1 : c = 1
  · subst c1; exact Or.inr (by omega)
  rcases Nat.lt_or_ge g 32 with q | q
  · exact Or.inr (xpr_div k hk g q (by omega) (by rw [hc]; exact Nat.mul_mod_right _ _))
  rcases Nat.lt_or_ge c 32 with r | r
  · have := xpr_div k hk c r (by omega) (by rw [hc]; exact Nat.mul_mod_left _ _)
    have h2 : 2 * c ≤ g * c := Nat.mul_le_mul_right _ (by omega)
    omega
  · have := Nat.mul_le_mul q r
    omega
theorem xpr_prime {k u : Nat} (hk : k < 168) (h : ¬ u % xpr k = 0) : Nat.Coprime (xpr k) u := by
  rcases xpr_dvd hk (Nat.gcd_dvd_left (xpr k) u) with q | q
  · exact q
  · exact absurd (Nat.mod_eq_zero_of_dvd (q ▸ Nat.gcd_dvd_right (xpr k) u)) h
theorem xpr_cop (k : Nat) (hk : k < 168) (j : Nat) (hj : j < k) : Nat.gcd (xpr k) (xpr j) = 1 := by
  refine xpr_prime hk ?_
  have := xpr_inc hk hj
  have := xpr_b j
  rw [Nat.mod_eq_of_lt (xpr_inc hk hj)]
  omega
/-- the product of the first n primes' powers -/
def pw (e : Nat → Nat) : Nat → Nat
  | 0 => 1
  | n + 1 => pw e n * xpr n ^ e n
theorem pw_pos {e : Nat → Nat} : ∀ n, 0 < pw e n
  | 0 => Nat.one_pos
  | n + 1 => Nat.mul_pos (pw_pos n) (Nat.pow_pos (by have := xpr_b n; omega))
theorem pw_congr {e e' : Nat → Nat} : ∀ {n : Nat}, (∀ i, i < n → e i = e' i) → pw e n = pw e' n
  | 0, _ => rfl
  | n + 1, h => by
    show pw e n * xpr n ^ e n = pw e' n * xpr n ^ e' n
    rw [pw_congr (fun i hi => h i (by omega)), h n (by omega)]
theorem pw_add {e s : Nat → Nat} : ∀ n, pw (fun k => e k + s k) n = pw e n * pw s n
  | 0 => rfl
  | n + 1 => by
    show pw (fun k => e k + s k) n * xpr n ^ (e n + s n) = pw e n * xpr n ^ e n * (pw s n * xpr n ^ s n)
    rw [pw_add n, Nat.pow_add]
    grind
theorem pw_zero : ∀ n, pw (fun _ => 0) n = 1
  | 0 => rfl
  | n + 1 => by
    show pw (fun _ => 0) n * xpr n ^ 0 = 1
    rw [pw_zero n]
    rfl
theorem pw_up1 {e : Nat → Nat} {k : Nat} : ∀ {n : Nat}, k < n → pw (va_up e k (e k + 1)) n = pw e n * xpr k
  | 0, h => absurd h (by omega)
  | n + 1, h => by
    show pw (va_up e k (e k + 1)) n * xpr n ^ va_up e k (e k + 1) n = pw e n * xpr n ^ e n * xpr k
    by_cases q : k = n
    · subst q
      rw [up_s, pw_congr (e' := e) (fun i hi => up_n (by omega)), Nat.pow_succ]
      grind
    · rw [up_n (fun z => q z.symm), pw_up1 (by omega)]
      grind
theorem pw_dn1 {e : Nat → Nat} {k n : Nat} (h : k < n) (hp : 1 ≤ e k) : pw (va_up e k (e k - 1)) n * xpr k = pw e n := by
  have := pw_up1 (e := va_up e k (e k - 1)) (k := k) h
  rw [up_s, Nat.sub_add_cancel hp] at this
  rw [← this]
  apply pw_congr
  intro i _
  by_cases q : i = k
  · subst q; rw [up_s]
  · rw [up_n q, up_n q]
theorem pw_dvd {e : Nat → Nat} {k : Nat} : ∀ {n : Nat}, k < n → xpr k ^ e k ∣ pw e n
  | 0, h => absurd h (by omega)
  | n + 1, h => by
    by_cases q : k = n
    · subst q; exact Nat.dvd_mul_left _ _
    · exact Nat.dvd_trans (pw_dvd (n := n) (by omega)) (Nat.dvd_mul_right _ _)
theorem pw_exp {e : Nat → Nat} {k n B : Nat} (h : k < n) (hB : pw e n < 2 ^ B) : e k < B := by
  have h1 : 2 ^ e k ≤ xpr k ^ e k := Nat.pow_le_pow_left (xpr_b k).1 _
  have h2 := Nat.le_of_dvd (pw_pos n) (pw_dvd (e := e) h)
  exact (Nat.pow_lt_pow_iff_right (by decide)).mp (Nat.lt_of_le_of_lt (Nat.le_trans h1 h2) hB)
/-- no prime whose power counts divides u: u and the product have nothing in common -/
theorem pw_cop {e : Nat → Nat} {u : Nat} : ∀ {n : Nat}, n ≤ 168 → (∀ k, k < n → 0 < e k → ¬ u % xpr k = 0) → Nat.Coprime u (pw e n)
  | 0, _, _ => Nat.coprime_one_right _
  | n + 1, hn, h => by
    refine Nat.Coprime.mul_right (pw_cop (by omega) fun k hk => h k (by omega)) ?_
    rcases Nat.eq_zero_or_pos (e n) with z | z
    · rw [z]; exact Nat.coprime_one_right _
    · exact Nat.Coprime.pow_right _ (xpr_prime (by omega) (h n (by omega) z)).symm
theorem pw_cop_tail {s : Nat → Nat} {k : Nat} : ∀ {n : Nat}, n ≤ k → k < 168 → Nat.Coprime (xpr k) (pw s n)
  | 0, _, _ => Nat.coprime_one_right _
  | n + 1, hn, hk => Nat.Coprime.mul_right (pw_cop_tail (by omega) hk) (Nat.Coprime.pow_right _ (xpr_cop k hk n (by omega)))
/-- numbers that are such products -/
def smooth (m : Nat) : Prop := ∃ s : Nat → Nat, m = pw s 168
theorem smooth.pos {m : Nat} (h : smooth m) : 0 < m := by
  obtain ⟨s, rfl⟩ := h
  exact pw_pos _
theorem smooth.mul {a b : Nat} (ha : smooth a) (hb : smooth b) : smooth (a * b) := by
  obtain ⟨s, rfl⟩ := ha
  obtain ⟨t, rfl⟩ := hb
  exact ⟨fun k => s k + t k, (pw_add 168).symm⟩
theorem smooth_one : smooth 1 := ⟨fun _ => 0, (pw_zero 168).symm⟩
theorem smooth_tab : ∀ m, m < 1001 → 2 ≤ m → (List.range 168).any (fun k => m % xpr k == 0) = true := by decide +kernel
theorem smooth_xpr {k : Nat} (hk : k < 168) : smooth (xpr k) := by
  refine ⟨va_up (fun _ => 0) k (0 + 1), ?_⟩
  have := pw_up1 (e := fun _ => 0) hk
  rw [pw_zero, Nat.one_mul] at this
  exact this.symm
theorem smooth_le : ∀ {m : Nat}, 0 < m → m ≤ 1000 → smooth m := by
  intro m
  induction m using Nat.strongRecOn with
  | _ m ih =>
    intro h h2
    by_cases q : m = 1
    · rw [q]; exact smooth_one
    · have := smooth_tab m (by omega) (by omega)
      rw [List.any_eq_true] at this
      obtain ⟨k, hk, hd⟩ := this
      have hk := List.mem_range.mp hk
      have hd : m % xpr k = 0 := by simpa using hd
      obtain ⟨c, hc⟩ := Nat.dvd_of_mod_eq_zero hd
      have hb := xpr_b k
      have c0 : 0 < c := Nat.pos_of_ne_zero (by intro z; subst z; omega)
      have : 2 * c ≤ xpr k * c := Nat.mul_le_mul_right _ hb.1
      rw [hc]
      exact (smooth_xpr hk).mul (ih c (by omega) c0 (by omega))
/-- a divisor of such a product is one -/
theorem smooth_dvd : ∀ (n : Nat), n ≤ 168 → ∀ (s : Nat → Nat) (d : Nat), d ∣ pw s n → ∃ t : Nat → Nat, d = pw t n
  | 0, _, s, d, h => ⟨s, Nat.dvd_one.mp h⟩
  | n + 1, hn, s, d, h => by
    have h : d ∣ pw s n * xpr n ^ s n := h
    have key : ∀ (a : Nat) (d : Nat), d ∣ pw s n * xpr n ^ a → ∃ (t : Nat → Nat) (b : Nat), d = pw t n * xpr n ^ b := by
      intro a
      induction a with
      | zero =>
        intro d hd
        rw [Nat.pow_zero, Nat.mul_one] at hd
        obtain ⟨t, ht⟩ := smooth_dvd n (by omega) s d hd
        exact ⟨t, 0, by rw [ht, Nat.pow_zero, Nat.mul_one]⟩
      | succ a ih =>
        intro d hd
        by_cases q : d % xpr n = 0
        · obtain ⟨c, hc⟩ := Nat.dvd_of_mod_eq_zero q
          have hp : 0 < xpr n := by have := xpr_b n; omega
          have : c ∣ pw s n * xpr n ^ a := by
            rw [hc, Nat.pow_succ] at hd
            have e : pw s n * (xpr n ^ a * xpr n) = xpr n * (pw s n * xpr n ^ a) := by grind
            rw [e] at hd
            exact Nat.dvd_of_mul_dvd_mul_left hp hd
          obtain ⟨t, b, hb⟩ := ih c this
          exact ⟨t, b + 1, by rw [hc, hb, Nat.pow_succ]; grind⟩
        · have cp : Nat.Coprime d (xpr n) := (xpr_prime (by omega) q).symm
          have : d ∣ pw s n * xpr n ^ a := by
            rw [Nat.pow_succ, ← Nat.mul_assoc] at hd
            exact Nat.Coprime.dvd_of_dvd_mul_right cp hd
          exact ih d this
    obtain ⟨t, b, hb⟩ := key (s n) d h
    refine ⟨va_up t n b, ?_⟩
    show d = pw (va_up t n b) n * xpr n ^ va_up t n b n
    rw [up_s, pw_congr (e' := t) (fun i hi => up_n (by omega))]
    exact hb
theorem smooth.dvd {m d : Nat} (h : smooth m) (hd : d ∣ m) : smooth d := by
  obtain ⟨s, rfl⟩ := h
  exact smooth_dvd 168 (Nat.le_refl _) s d hd
theorem smooth.div {m d : Nat} (h : smooth m) (hd : d ∣ m) : smooth (m / d) := h.dvd (Nat.div_dvd_of_dvd hd)
