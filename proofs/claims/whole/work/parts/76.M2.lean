/-! the reference: numbers in rows -/
abbrev St : Type := (Nat → Nat) × (Nat → Nat) × (Nat → Nat)
abbrev MV.R (s : MV) : St := (s.lb, s.ln, s.pw)
abbrev mR (s : MV) (R : St) : MV := (s.1, s.2.1, s.2.2.1, (R.1, R.2.1, R.2.2, s.tl))
def vw (f : Nat → Nat) (r : Nat) : Nat → Nat := fun i => f (160 * r + i)
theorem vw_up {f : Nat → Nat} {r j v : Nat} : vw (va_up f (160 * r + j) v) r = va_up (vw f r) j v := by
  funext i
  by_cases q : i = j
  · subst q; rw [up_s]; exact up_s
  · rw [up_n q]; exact up_n (by omega)
def Rw (R : St) (r x : Nat) (e : Nat → Nat) : Prop := bOk 160 (R.2.1 r) (vw R.1 r) x ∧ ∀ k, k < 168 → R.2.2 (168 * r + k) = e k
def oth (r : Nat) (R R' : St) : Prop := (∀ q, q ≠ r → R'.2.1 q = R.2.1 q) ∧ (∀ j, j < 160 * r ∨ 160 * r + 160 ≤ j → R'.1 j = R.1 j) ∧ ∀ j, j < 168 * r ∨ 168 * r + 168 ≤ j → R'.2.2 j = R.2.2 j
theorem oth.rf {r : Nat} {R : St} : oth r R R := ⟨fun _ _ => rfl, fun _ _ => rfl, fun _ _ => rfl⟩
theorem oth.tr {r : Nat} {R R1 R2 : St} (a : oth r R R1) (b : oth r R1 R2) : oth r R R2 := ⟨fun q hq => (b.1 q hq).trans (a.1 q hq), fun q hq => (b.2.1 q hq).trans (a.2.1 q hq), fun q hq => (b.2.2 q hq).trans (a.2.2 q hq)⟩
theorem bOk.congr {N u v : Nat} {f f' : Nat → Nat} (k : bOk N u f v) (h : ∀ i, i < N → f' i = f i) : bOk N u f' v := by
  obtain ⟨a, b, c, d, e⟩ := k
  refine ⟨a, b, fun i hi => by rw [h i (by omega)]; exact c i hi, fun m hm => by rw [h m (by omega)]; exact d m hm, ?_⟩
  rw [bv_congr (fun i hi => h i (by omega))]
  exact e
theorem Rw.oth {R R' : St} {r q x : Nat} {e : Nat → Nat} (k : Rw R q x e) (o : oth r R R') (h : q ≠ r) : Rw R' q x e := by
  obtain ⟨a, b⟩ := k
  obtain ⟨o1, o2, o3⟩ := o
  refine ⟨?_, fun k hk => by rw [o3 _ (by omega)]; exact b k hk⟩
  rw [o1 q h]
  exact a.congr (fun i hi => o2 _ (by omega))
theorem Rw.lt {R : St} {q x : Nat} {e : Nat → Nat} (k : Rw R q x e) : x < 1000000000 ^ 160 := Nat.lt_of_lt_of_le k.1.lt (BBmono k.1.1)
theorem Rw.to {R : St} {q x : Nat} {e e' : Nat → Nat} (k : Rw R q x e) (h : ∀ i, i < 168 → e i = e' i) : Rw R q x e' := ⟨k.1, fun i hi => (k.2 i hi).trans (h i hi)⟩
section M2
variable {g : xG} {Q : mQ} {s : MV} {x0 : Nat}
theorem l_set1 {r v : Nat} (hr : r < 84) (R0 : St) (hn : ∀ lb, (∀ i, i < 160 → vw lb r i = 0) → (∀ j, j < 160 * r ∨ 160 * r + 160 ≤ j → lb j = R0.1 j) → BlkM g M_X10_set x0 Q 34 [(0, .ref x0), (1, .int (nI r)), (2, .long (lN v)), (4, .int (nI 0))] [] (mR s (lb, R0.2.1, R0.2.2))) :
    ∀ (m i : Nat) (lb : Nat → Nat), i + m = 160 → (∀ j, j < i → vw lb r j = 0) → (∀ j, j < 160 * r ∨ 160 * r + 160 ≤ j → lb j = R0.1 j) → BlkM g M_X10_set x0 Q 3 [(0, .ref x0), (1, .int (nI r)), (2, .long (lN v)), (4, .int (nI i))] [] (mR s (lb, R0.2.1, R0.2.2)) := by
  intro m
  induction m with
  | zero =>
    intro i lb hi h1 h2
    have : i = 160 := by omega
    subst this
    exact v_X10_set_3 ⟨⟨by decide, by decide⟩, fun _ => hn lb h1 h2, fun q => absurd q (by decide)⟩
  | succ m ih =>
    intro i lb hi h1 h2
    refine v_X10_set_3 ⟨⟨by omega, by decide⟩, fun q => absurd q (by omega), fun q => ⟨by omega, ?_⟩⟩
    refine ih (i + 1) (va_up lb (160 * r + i) 0) (by omega) (fun j hj => ?_) (fun j hj => ?_)
    · rw [vw_up]
      by_cases q : j = i
      · subst q; exact up_s
      · rw [up_n q]; exact h1 j (by omega)
    · rw [up_n (by omega)]; exact h2 j hj
theorem l_set2 {r v : Nat} (hr : r < 84) (hv : v < 1000000000) (R0 : St) (h0 : ∀ i, i < 160 → vw R0.1 r i = 0) (hp : ∀ R', Rw R' r v (fun _ => 0) → oth r R0 R' → Q none (mR s R')) :
    ∀ (m i : Nat) (p : Nat → Nat), i + m = 168 → (∀ j, j < i → p (168 * r + j) = 0) → (∀ j, j < 168 * r ∨ 168 * r + 168 ≤ j → p j = R0.2.2 j) → BlkM g M_X10_set x0 Q 34 [(0, .ref x0), (1, .int (nI r)), (2, .long (lN v)), (4, .int (nI i))] [] (mR s (R0.1, R0.2.1, p)) := by
  intro m
  induction m with
  | zero =>
    intro i p hi h1 h2
    have : i = 168 := by omega
    subst this
    have ho : ∀ u, oth r R0 (va_up R0.1 (160 * r) v, va_up R0.2.1 r u, p) := fun u => ⟨fun q hq => up_n hq, fun j hj => up_n (by omega), h2⟩
    have hf : vw (va_up R0.1 (160 * r) v) r = va_up (vw R0.1 r) 0 v := vw_up (j := 0)
    refine v_X10_set_34 ⟨⟨by decide, by decide⟩, fun _ => ⟨by omega, ⟨by omega, by decide⟩, fun q => ⟨hr, ?_⟩, fun q => ⟨hr, ?_⟩⟩, fun q => absurd q (by decide)⟩
    · refine hp (va_up R0.1 (160 * r) v, va_up R0.2.1 r 1, p) ⟨?_, h1⟩ (ho 1)
      show bOk 160 (va_up R0.2.1 r 1 r) (vw (va_up R0.1 (160 * r) v) r) v
      rw [up_s, hf]
      refine ⟨by decide, by decide, fun i hi => ?_, fun m hm => ?_, ?_⟩
      · have : i = 0 := by omega
        subst this; rw [up_s]; exact hv
      · have : m = 0 := by omega
        subst this; rw [up_s]; omega
      · show 0 + va_up (vw R0.1 r) 0 v 0 * 1 = v
        rw [up_s]; omega
    · refine hp (va_up R0.1 (160 * r) v, va_up R0.2.1 r 0, p) ⟨?_, h1⟩ (ho 0)
      show bOk 160 (va_up R0.2.1 r 0 r) (vw (va_up R0.1 (160 * r) v) r) v
      rw [up_s]
      exact ⟨by decide, by decide, fun i hi => absurd hi (by omega), fun m hm => absurd hm (by omega), q.symm⟩
  | succ m ih =>
    intro i p hi h1 h2
    refine v_X10_set_34 ⟨⟨by omega, by decide⟩, fun q => absurd q (by omega), fun q => ⟨by omega, ?_⟩⟩
    refine ih (i + 1) (va_up p (168 * r + i) 0) (by omega) (fun j hj => ?_) (fun j hj => ?_)
    · by_cases q : j = i
      · subst q; exact up_s
      · rw [up_n (by omega)]; exact h1 j (by omega)
    · rw [up_n (by omega)]; exact h2 j hj
theorem m_set {r v : Nat} (hr : r < 84) (hv : v < 1000000000) (hp : ∀ R', Rw R' r v (fun _ => 0) → oth r s.R R' → Q none (mR s R')) : CtM g M_X10_set [.ref x0, .int (nI r), .long (lN v)] x0 s Q := by
  refine CtM.of (by decide +kernel) (Nat.le_of_ble_eq_true rfl) (v_X10_set_0 ?_)
  refine l_set1 (s := s) hr s.R (fun lb h1 h2 => ?_) 160 0 s.lb (by decide) (fun j hj => absurd hj (by omega)) (fun _ _ => rfl)
  refine l_set2 (s := s) hr hv (lb, s.ln, s.pw) h1 (fun R' k o => hp R' k ?_) 168 0 s.pw (by decide) (fun j hj => absurd hj (by omega)) (fun _ _ => rfl)
  exact ⟨o.1, fun j hj => (o.2.1 j hj).trans (h2 j hj), o.2.2⟩
theorem l_cpy1 {a b : Nat} (ha : a < 84) (hb : b < 84) (hab : a ≠ b) (R0 : St) (hn : ∀ lb, (∀ i, i < 160 → vw lb b i = vw R0.1 a i) → (∀ j, j < 160 * b ∨ 160 * b + 160 ≤ j → lb j = R0.1 j) → BlkM g M_X10_copy x0 Q 41 [(0, .ref x0), (1, .int (nI a)), (2, .int (nI b)), (3, .int (nI 0))] [] (mR s (lb, R0.2.1, R0.2.2))) :
    ∀ (m i : Nat) (lb : Nat → Nat), i + m = 160 → (∀ j, j < i → vw lb b j = vw R0.1 a j) → (∀ j, j < 160 * b ∨ 160 * b + 160 ≤ j → lb j = R0.1 j) → BlkM g M_X10_copy x0 Q 2 [(0, .ref x0), (1, .int (nI a)), (2, .int (nI b)), (3, .int (nI i))] [] (mR s (lb, R0.2.1, R0.2.2)) := by
  intro m
  induction m with
  | zero =>
    intro i lb hi h1 h2
    have : i = 160 := by omega
    subst this
    exact v_X10_copy_2 ⟨⟨by decide, by decide⟩, fun _ => hn lb h1 h2, fun q => absurd q (by decide)⟩
  | succ m ih =>
    intro i lb hi h1 h2
    refine v_X10_copy_2 ⟨⟨by omega, by decide⟩, fun q => absurd q (by omega), fun q => ⟨by omega, by omega, ?_⟩⟩
    refine ih (i + 1) (va_up lb (160 * b + i) (lb (160 * a + i))) (by omega) (fun j hj => ?_) (fun j hj => ?_)
    · rw [vw_up]
      by_cases q : j = i
      · subst q; rw [up_s]; exact h2 _ (by omega)
      · rw [up_n q]; exact h1 j (by omega)
    · rw [up_n (by omega)]; exact h2 j hj
theorem l_cpy2 {a b : Nat} (ha : a < 84) (hb : b < 84) (hab : a ≠ b) (R0 : St) (hp : ∀ p, (∀ j, j < 168 → p (168 * b + j) = R0.2.2 (168 * a + j)) → (∀ j, j < 168 * b ∨ 168 * b + 168 ≤ j → p j = R0.2.2 j) → Q none (mR s (R0.1, va_up R0.2.1 b (R0.2.1 a), p))) :
    ∀ (m i : Nat) (p : Nat → Nat), i + m = 168 → (∀ j, j < i → p (168 * b + j) = R0.2.2 (168 * a + j)) → (∀ j, j < 168 * b ∨ 168 * b + 168 ≤ j → p j = R0.2.2 j) → BlkM g M_X10_copy x0 Q 41 [(0, .ref x0), (1, .int (nI a)), (2, .int (nI b)), (3, .int (nI i))] [] (mR s (R0.1, R0.2.1, p)) := by
  intro m
  induction m with
  | zero =>
    intro i p hi h1 h2
    have : i = 168 := by omega
    subst this
    exact v_X10_copy_41 ⟨⟨by decide, by decide⟩, fun _ => ⟨ha, hb, hp p h1 h2⟩, fun q => absurd q (by decide)⟩
  | succ m ih =>
    intro i p hi h1 h2
    refine v_X10_copy_41 ⟨⟨by omega, by decide⟩, fun q => absurd q (by omega), fun q => ⟨by omega, by omega, ?_⟩⟩
    refine ih (i + 1) (va_up p (168 * b + i) (p (168 * a + i))) (by omega) (fun j hj => ?_) (fun j hj => ?_)
    · by_cases q : j = i
      · subst q; rw [up_s]; exact h2 _ (by omega)
      · rw [up_n (by omega)]; exact h1 j (by omega)
    · rw [up_n (by omega)]; exact h2 j hj
theorem m_copy {a b : Nat} (ha : a < 84) (hb : b < 84) (hab : a ≠ b) (hp : ∀ R', (∀ x e, Rw s.R a x e → Rw R' b x e) → oth b s.R R' → Q none (mR s R')) : CtM g M_X10_copy [.ref x0, .int (nI a), .int (nI b)] x0 s Q := by
  refine CtM.of (by decide +kernel) (Nat.le_of_ble_eq_true rfl) (v_X10_copy_0 ?_)
  refine l_cpy1 (s := s) ha hb hab s.R (fun lb h1 h2 => ?_) 160 0 s.lb (by decide) (fun j hj => absurd hj (by omega)) (fun _ _ => rfl)
  refine l_cpy2 (s := s) ha hb hab (lb, s.ln, s.pw) (fun p k o => hp (lb, va_up s.ln b (s.ln a), p) (fun x e hx => ?_) ⟨fun q hq => up_n hq, h2, o⟩) 168 0 s.pw (by decide) (fun j hj => absurd hj (by omega)) (fun _ _ => rfl)
  refine ⟨?_, fun i hi => (k i hi).trans (hx.2 i hi)⟩
  show bOk 160 (va_up s.ln b (s.ln a) b) (vw lb b) x
  rw [up_s]
  exact hx.1.congr h1
theorem l_times {r m u x : Nat} {f0 : Nat → Nat} (hr : r < 84) (hm : 1 ≤ m ∧ m < 1000000000) (hu : u ≤ 160) (hd : ∀ i, i < u → f0 i < 1000000000) (ht : topOk f0 u) (hv : bv f0 u = x) (hx : x * m < 1000000000 ^ 160) (R0 : St)
    (hp : ∀ R', bOk 160 (R'.2.1 r) (vw R'.1 r) (x * m) → R'.2.2 = R0.2.2 → oth r R0 R' → Q none (mR s R')) :
    ∀ (n i c : Nat) (lb : Nat → Nat), u - i = n → i ≤ u → (∀ j, j < 160 * r ∨ 160 * r + 160 ≤ j → lb j = R0.1 j) → (∀ j, i ≤ j → j < 160 → vw lb r j = f0 j) → (∀ j, j < i → vw lb r j < 1000000000) → c < 1000000000 → bv (vw lb r) i + c * 1000000000 ^ i = bv f0 i * m →
    BlkM g M_X10_times x0 Q 14 [(0, .ref x0), (1, .int (nI r)), (2, .long (lN m)), (4, .long (lN c)), (6, .int (nI u)), (7, .int (nI i))] [] (mR s (lb, R0.2.1, R0.2.2)) := by
  intro n
  induction n with
  | zero =>
    intro i c lb hn hi ho hf hlt hc he
    have hiu : i = u := by omega
    subst hiu
    refine v_X10_times_14 ⟨⟨by omega, by omega⟩, fun _ => ⟨⟨by omega, by omega⟩, fun hc0 => ⟨hr, ?_⟩, fun hc0 => ?_⟩, fun q => absurd q (by omega)⟩
    · have hc1 : c = 0 := by omega
      subst hc1
      rw [Nat.zero_mul, Nat.add_zero, hv] at he
      refine hp (lb, va_up R0.2.1 r i, R0.2.2) ?_ rfl ⟨fun q hq => up_n hq, ho, fun _ _ => rfl⟩
      show bOk 160 (va_up R0.2.1 r i r) (vw lb r) (x * m)
      rw [up_s]
      refine ⟨hu, by decide, hlt, fun w hw => ?_, he⟩
      subst hw
      refine bv_top hlt ?_
      have h1 := bv_ge (ht w rfl)
      rw [hv] at h1
      have h2 : x * 1 ≤ x * m := Nat.mul_le_mul_left x (by omega)
      omega
    · have hP := BBpos i
      have h3 : 1 * 1000000000 ^ i ≤ c * 1000000000 ^ i := Nat.mul_le_mul_right _ hc0
      have hiN : i < 160 := by
        apply BBlt
        rw [hv] at he
        omega
      refine ⟨by omega, hr, ?_⟩
      refine hp (va_up lb (160 * r + i) c, va_up R0.2.1 r (i + 1), R0.2.2) ?_ rfl ⟨fun q hq => up_n hq, fun j hj => (up_n (by omega)).trans (ho j hj), fun _ _ => rfl⟩
      show bOk 160 (va_up R0.2.1 r (i + 1) r) (vw (va_up lb (160 * r + i) c) r) (x * m)
      rw [up_s, vw_up]
      refine ⟨by omega, by decide, ?_, ?_, ?_⟩
      · intro j hj
        by_cases q : j = i
        · subst q; rw [up_s]; exact hc
        · rw [up_n q]; exact hlt j (by omega)
      · intro w hw
        have : w = i := by omega
        subst this
        rw [up_s]; exact hc0
      · show bv (va_up (vw lb r) i c) i + va_up (vw lb r) i c i * 1000000000 ^ i = _
        rw [bv_up (Nat.le_refl _), up_s, he, hv]
  | succ n ih =>
    intro i c lb hn hi ho hf hlt hc he
    have hfi : vw lb r i = f0 i := hf i (Nat.le_refl _) (by omega)
    have hdi : f0 i < 1000000000 := hd i (by omega)
    have hm1 : f0 i * m ≤ (1000000000 - 1) * (1000000000 - 1) := Nat.mul_le_mul (by omega) (by omega)
    have hs : vw lb r i * m + c < 1000000000 * 1000000000 := by rw [hfi]; omega
    have hs' : vw lb r i * m + c < 2 ^ 63 := by omega
    have hdm := Nat.div_add_mod (vw lb r i * m + c) 1000000000
    have hq : (vw lb r i * m + c) / 1000000000 < 1000000000 := Nat.div_lt_of_lt_mul hs
    have hrlt : (vw lb r i * m + c) % 1000000000 < 1000000000 := Nat.mod_lt _ (by decide)
    refine v_X10_times_14 ⟨⟨by omega, by omega⟩, fun q => absurd q (by omega), fun _ => ⟨by omega, ⟨hs', by decide, by decide⟩, by omega, ⟨hs', by decide, by decide⟩, ?_⟩⟩
    refine ih (i + 1) ((vw lb r i * m + c) / 1000000000) (va_up lb (160 * r + i) ((vw lb r i * m + c) % 1000000000)) (by omega) (by omega) (fun j hj => (up_n (by omega)).trans (ho j hj)) ?_ ?_ hq ?_
    · intro j hj hj2
      rw [vw_up, up_n (by omega)]
      exact hf j (by omega) hj2
    · intro j hj
      rw [vw_up]
      by_cases q : j = i
      · subst q; rw [up_s]; exact hrlt
      · rw [up_n q]; exact hlt j (by omega)
    · rw [vw_up]
      show (bv (va_up (vw lb r) i ((vw lb r i * m + c) % 1000000000)) i + va_up (vw lb r) i ((vw lb r i * m + c) % 1000000000) i * 1000000000 ^ i) + (vw lb r i * m + c) / 1000000000 * 1000000000 ^ (i + 1) = (bv f0 i + f0 i * 1000000000 ^ i) * m
      rw [bv_up (Nat.le_refl _), up_s, Nat.pow_succ]
      refine bv_mulstep he ?_
      rw [← hfi]
      omega
theorem m_times {r m x : Nat} {e : Nat → Nat} (hr : r < 84) (hR : Rw s.R r x e) (hm : 1 ≤ m ∧ m < 1000000000) (hx : x * m < 1000000000 ^ 160) (hp : ∀ R', Rw R' r (x * m) e → oth r s.R R' → Q none (mR s R')) : CtM g M_X10_times [.ref x0, .int (nI r), .long (lN m)] x0 s Q := by
  obtain ⟨⟨k1, k2, k3, k4, k5⟩, kp⟩ := hR
  refine CtM.of (by decide +kernel) (Nat.le_of_ble_eq_true rfl) (v_X10_times_0 ⟨hr, ?_⟩)
  refine l_times (s := s) (u := s.ln r) hr hm k1 k3 k4 k5 hx s.R (fun R' h1 h2 h3 => hp R' ⟨h1, fun i hi => by rw [h2]; exact kp i hi⟩ h3) (s.ln r) 0 0 s.lb (by omega) (by omega) (fun _ _ => rfl) (fun _ _ _ => rfl) (fun _ hj => absurd hj (by omega)) (by decide) (by show 0 + 0 * _ = 0 * _; omega)
theorem ixP {r i : Nat} : nI (160 * r) + (nI (i + 1) - nI 1) = nI (160 * r + i) := by
  rw [pk_sub (by omega), Nat.add_sub_cancel, nI_add]
theorem l_rest {r p x u : Nat} (hr : r < 84) (hu : u ≤ 160) (hp0 : 0 < p ∧ p < 1000000000) (hl : ∀ i, i < u → vw s.lb r i < 1000000000) (hv : bv (vw s.lb r) u = x) (hp : Q (some (.long (lN (x % p)))) s) : ∀ (i t H : Nat), i ≤ u → x = bv (vw s.lb r) i + H * 1000000000 ^ i → t = H % p → BlkM g M_X10_restBy x0 Q 13 [(0, .ref x0), (1, .int (nI r)), (2, .long (lN p)), (4, .long (lN t)), (6, .int (nI i - nI 1))] [] s := by
  intro i
  induction i with
  | zero =>
    intro t H hi he ht
    have e : x = H := by
      rw [he]
      show 0 + H * 1 = H
      omega
    refine v_X10_restBy_13 ⟨by decide, fun _ => ?_, fun q => absurd q (by omega)⟩
    rw [ht, ← e]
    exact hp
  | succ i ih =>
    intro t H hi he ht
    have hfi := hl i (by omega)
    have htp : t < p := by rw [ht]; exact Nat.mod_lt _ hp0.1
    have hb : t * 1000000000 + vw s.lb r i < 2 ^ 63 := by omega
    refine v_X10_restBy_13 ⟨by omega, fun q => absurd q (by omega), fun _ => ⟨160 * r + i, ixP, by omega, ⟨hb, by omega, by omega⟩, by omega, ?_⟩⟩
    rw [Nat.add_sub_cancel]
    refine ih _ (H * 1000000000 + vw s.lb r i) (by omega) ?_ ?_
    · rw [he, Nat.pow_succ]
      show bv (vw s.lb r) i + vw s.lb r i * 1000000000 ^ i + _ = _
      grind
    · show (t * 1000000000 + vw s.lb r i) % p = _
      rw [ht, Nat.add_mod, Nat.mul_mod, Nat.mod_mod, ← Nat.mul_mod, ← Nat.add_mod]
theorem m_restBy {r p x : Nat} {e : Nat → Nat} (hr : r < 84) (hR : Rw s.R r x e) (hp0 : 0 < p ∧ p < 1000000000) (hp : Q (some (.long (lN (x % p)))) s) : CtM g M_X10_restBy [.ref x0, .int (nI r), .long (lN p)] x0 s Q := by
  obtain ⟨⟨k1, k2, k3, k4, k5⟩, kp⟩ := hR
  exact CtM.of (by decide +kernel) (Nat.le_of_ble_eq_true rfl) (v_X10_restBy_0 ⟨hr, l_rest hr k1 hp0 k3 k5 hp _ 0 0 (Nat.le_refl _) (by have := k5; show x = bv (vw s.R.1 r) (s.R.2.1 r) + 0 * _; omega) (by rw [Nat.zero_mod])⟩)
theorem l_mtrim {r x : Nat} (hr : r < 84) (R0 : St) (hp : ∀ R', bOk 160 (R'.2.1 r) (vw R'.1 r) x → R'.1 = R0.1 → R'.2.2 = R0.2.2 → oth r R0 R' → Q none (mR s R')) : ∀ (u : Nat) (ln : Nat → Nat), ln r = u → u ≤ 160 → (∀ q, q ≠ r → ln q = R0.2.1 q) → (∀ j, j < u → vw R0.1 r j < 1000000000) → bv (vw R0.1 r) u = x → BlkM g M_X10_trim x0 Q 0 [(0, .ref x0), (1, .int (nI r))] [] (mR s (R0.1, ln, R0.2.2)) := by
  intro u
  induction u with
  | zero =>
    intro ln hl hu ho hlt he
    have hl' : (mR s (R0.1, ln, R0.2.2)).ln r = 0 := hl
    refine v_X10_trim_0 ⟨hr, by omega, fun _ => hp (R0.1, ln, R0.2.2) ?_ rfl rfl ⟨ho, fun _ _ => rfl, fun _ _ => rfl⟩, fun q => absurd q (by omega)⟩
    show bOk 160 (ln r) (vw R0.1 r) x
    rw [hl]
    exact ⟨by omega, by decide, hlt, fun m hm => absurd hm (by omega), he⟩
  | succ u ih =>
    intro ln hl hu ho hlt he
    have hl' : (mR s (R0.1, ln, R0.2.2)).ln r = u + 1 := hl
    have hj : 160 * r + (mR s (R0.1, ln, R0.2.2)).ln r - 1 = 160 * r + u := by omega
    have hw : (mR s (R0.1, ln, R0.2.2)).lb (160 * r + u) = vw R0.1 r u := rfl
    have hb := hlt u (by omega)
    refine v_X10_trim_0 ⟨hr, by omega, fun q => absurd q (by omega), fun _ => ⟨hr, by omega, by omega, ?_⟩⟩
    rw [hj, hw]
    refine ⟨⟨by omega, by decide⟩, fun q => ?_, fun q => ⟨hr, by omega, hr, ?_⟩⟩
    · refine hp (R0.1, ln, R0.2.2) ?_ rfl rfl ⟨ho, fun _ _ => rfl, fun _ _ => rfl⟩
      show bOk 160 (ln r) (vw R0.1 r) x
      rw [hl]
      refine ⟨hu, by decide, hlt, fun m hm => ?_, he⟩
      have : m = u := by omega
      subst this
      omega
    · refine ih (va_up ln r (ln r - 1)) (by rw [up_s]; omega) (by omega) (fun q hq => (up_n hq).trans (ho q hq)) (fun j hj => hlt j (by omega)) ?_
      rw [← he]
      show bv _ u = bv _ u + vw R0.1 r u * 1000000000 ^ u
      rw [q]
      omega
theorem m_trim {r x u : Nat} (hr : r < 84) (hl : s.ln r = u) (hu : u ≤ 160) (hlt : ∀ j, j < u → vw s.lb r j < 1000000000) (he : bv (vw s.lb r) u = x) (hp : ∀ R', bOk 160 (R'.2.1 r) (vw R'.1 r) x → R'.2.2 = s.pw → oth r s.R R' → Q none (mR s R')) : CtM g M_X10_trim [.ref x0, .int (nI r)] x0 s Q :=
  CtM.of (by decide +kernel) (Nat.le_of_ble_eq_true rfl) (l_mtrim (s := s) hr s.R (fun R' h1 _ h3 h4 => hp R' h1 h3 h4) u s.ln hl hu (fun _ _ => rfl) hlt he)
end M2
