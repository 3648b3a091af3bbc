/-! the reference: numbers in rows: dividing, shortening, comparing -/
theorem bv_divstep {f : Nat → Nat} {i u q Qn : Nat} (hi : i + 1 ≤ u) (hq : bv f u = bv f (i + 1) + Qn * 1000000000 ^ (i + 1)) : bv (va_up f i q) u = bv (va_up f i q) i + (Qn * 1000000000 + q) * 1000000000 ^ i := by
  rw [bv_up (Nat.le_refl _)]
  obtain ⟨H2, hH2⟩ := bv_split (f := va_up f i q) (i := i + 1) u hi
  have x1 : ∀ w, i + 1 ≤ w → bv (va_up f i q) w + f i * 1000000000 ^ i = bv f w + q * 1000000000 ^ i := by
    intro w hw
    induction w with
    | zero => omega
    | succ w ihw =>
      by_cases z : i = w
      · subst z
        show bv (va_up f i _) i + va_up f i _ i * 1000000000 ^ i + _ = bv f i + f i * 1000000000 ^ i + _
        rw [bv_up (Nat.le_refl _), up_s]
        omega
      · have := ihw (by omega)
        show bv (va_up f i _) w + va_up f i _ w * 1000000000 ^ w + _ = bv f w + f w * 1000000000 ^ w + _
        rw [up_n (by omega)]
        omega
  have x2 := x1 u hi
  have x3 := x1 (i + 1) (Nat.le_refl _)
  have hHH : H2 = Qn := by
    rw [hq, hH2] at x2
    have x4 : H2 * 1000000000 ^ (i + 1) = Qn * 1000000000 ^ (i + 1) := by omega
    exact Nat.eq_of_mul_eq_mul_right (BBpos (i + 1)) x4
  rw [hH2, hHH, Nat.pow_succ]
  show bv (va_up f i _) i + va_up f i _ i * 1000000000 ^ i + _ = _
  rw [bv_up (Nat.le_refl _), up_s]
  grind
section M3
variable {g : xG} {Q : mQ} {s : MV} {x0 : Nat}
theorem l_mdiv {r p x u : Nat} {f0 : Nat → Nat} (hr : r < 84) (hu : u ≤ 160) (hd : 0 < p ∧ p < 1000000000) (hv : bv f0 u = x) (R0 : St) (hl : R0.2.1 r = u) (hp : ∀ R', bOk 160 (R'.2.1 r) (vw R'.1 r) (x / p) → R'.2.2 = R0.2.2 → oth r R0 R' → Q none (mR s R')) :
    ∀ (i t Hq Qn : Nat) (lb : Nat → Nat), i ≤ u → (∀ j, j < 160 * r ∨ 160 * r + 160 ≤ j → lb j = R0.1 j) → (∀ j, j < i → vw lb r j = f0 j) → (∀ j, j < u → vw lb r j < 1000000000) → x = bv f0 i + Hq * 1000000000 ^ i → bv (vw lb r) u = bv (vw lb r) i + Qn * 1000000000 ^ i → Hq = Qn * p + t → t < p →
    BlkM g M_X10_divide x0 Q 13 [(0, .ref x0), (1, .int (nI r)), (2, .long (lN p)), (4, .long (lN t)), (6, .int (nI i - nI 1))] [] (mR s (lb, R0.2.1, R0.2.2)) := by
  intro i
  induction i with
  | zero =>
    intro t Hq Qn lb hi ho hf hlt he hq hr' hrd
    have e1 : x = Hq := by
      rw [he]
      show 0 + Hq * 1 = Hq
      omega
    have e2 : bv (vw lb r) u = Qn := by
      rw [hq]
      show 0 + Qn * 1 = Qn
      omega
    have e3 : x / p = Qn := by
      rw [e1, hr', Nat.mul_comm, Nat.mul_add_div hd.1, Nat.div_eq_of_lt hrd, Nat.add_zero]
    refine v_X10_divide_13 ⟨by decide, fun _ => m_trim (u := u) hr hl hu hlt (e2.trans e3.symm) (fun R' k1 k2 k3 => ⟨rfl, hp R' k1 k2 ?_⟩), fun q => absurd q (by omega)⟩
    exact ⟨k3.1, fun j hj => (k3.2.1 j hj).trans (ho j hj), k3.2.2⟩
  | succ i ih =>
    intro t Hq Qn lb hi ho hf hlt he hq hr' hrd
    have hfi := hlt i (by omega)
    have hf0 : vw lb r i = f0 i := hf i (by omega)
    have hb : t * 1000000000 + vw lb r i < 2 ^ 63 := by omega
    have hdm := Nat.div_add_mod (t * 1000000000 + vw lb r i) p
    have hql : (t * 1000000000 + vw lb r i) / p < 1000000000 := by
      rw [Nat.div_lt_iff_lt_mul hd.1]
      have : (t + 1) * 1000000000 ≤ p * 1000000000 := Nat.mul_le_mul_right _ hrd
      omega
    refine v_X10_divide_13 ⟨by omega, fun q => absurd q (by omega), fun _ => ⟨160 * r + i, ixP, by omega, ⟨hb, by omega, by omega⟩, 160 * r + i, ixP, by omega, ⟨hb, by omega, by omega⟩, by omega, ?_⟩⟩
    rw [Nat.add_sub_cancel]
    refine ih _ (Hq * 1000000000 + f0 i) (Qn * 1000000000 + (t * 1000000000 + vw lb r i) / p) (va_up lb (160 * r + i) ((t * 1000000000 + vw lb r i) / p)) (by omega) (fun j hj => (up_n (by omega)).trans (ho j hj)) ?_ ?_ ?_ ?_ ?_ (Nat.mod_lt _ hd.1)
    · intro j hj
      rw [vw_up, up_n (by omega)]
      exact hf j (by omega)
    · intro j hj
      rw [vw_up]
      by_cases z : j = i
      · subst z; rw [up_s]; exact hql
      · rw [up_n z]; exact hlt j hj
    · rw [he, Nat.pow_succ]
      show bv f0 i + f0 i * 1000000000 ^ i + _ = _
      grind
    · rw [vw_up]
      exact bv_divstep hi hq
    · show Hq * 1000000000 + f0 i = _ * p + (t * 1000000000 + vw lb r i) % p
      rw [hr', ← hf0]
      grind
theorem m_divide {r p x : Nat} {e : Nat → Nat} (hr : r < 84) (hR : Rw s.R r x e) (hd : 0 < p ∧ p < 1000000000) (hp : ∀ R', Rw R' r (x / p) e → oth r s.R R' → Q none (mR s R')) : CtM g M_X10_divide [.ref x0, .int (nI r), .long (lN p)] x0 s Q := by
  obtain ⟨⟨k1, k2, k3, k4, k5⟩, kp⟩ := hR
  refine CtM.of (by decide +kernel) (Nat.le_of_ble_eq_true rfl) (v_X10_divide_0 ⟨hr, ?_⟩)
  exact l_mdiv (s := s) (u := s.ln r) hr k1 hd k5 s.R rfl (fun R' h1 h2 h3 => hp R' ⟨h1, fun i hi => by rw [h2]; exact kp i hi⟩ h3) (s.ln r) 0 0 0 s.lb (Nat.le_refl _) (fun _ _ => rfl) (fun _ _ => rfl) k3 (by have := k5; show x = bv (vw s.R.1 r) (s.R.2.1 r) + 0 * _; omega) (by omega) (by omega) hd.1
theorem Rw.pow {lb ln p : Nat → Nat} {r k x v : Nat} {e : Nat → Nat} (h : Rw (lb, ln, p) r x e) (hk : k < 168) : Rw (lb, ln, va_up p (168 * r + k) v) r x (va_up e k v) := by
  refine ⟨h.1, fun i hi => ?_⟩
  show va_up p (168 * r + k) v (168 * r + i) = _
  by_cases q : i = k
  · subst q; rw [up_s, up_s]
  · rw [up_n (by omega), up_n q]; exact h.2 i hi
theorem oth.pow {R : St} {lb ln p : Nat → Nat} {r k v : Nat} (o : oth r R (lb, ln, p)) (hk : k < 168) : oth r R (lb, ln, va_up p (168 * r + k) v) :=
  ⟨o.1, o.2.1, fun j hj => (up_n (by omega)).trans (o.2.2 j hj)⟩
abbrev red (x : Nat) (e : Nat → Nat) : Prop := ∀ k, k < 168 → 0 < e k → ¬ x % xpr k = 0
abbrev prOK (s : MV) : Prop := ∀ k, k < 168 → s.pr k = xpr k
theorem l_red {r X D : Nat} (hr : r < 84) (hP : prOK s) (R0 : St) (hp : ∀ R' x' e', Rw R' r x' e' → x' * D = X * pw e' 168 → red x' e' → oth r R0 R' → Q none (mR s R')) :
    ∀ (m k : Nat) (R : St) (x : Nat) (e : Nat → Nat), k + m = 168 → Rw R r x e → x * D = X * pw e 168 → 0 < D → (∀ j, j < k → 0 < e j → ¬ x % xpr j = 0) → (∀ j, j < 168 → e j < 2 ^ 31) → oth r R0 R → BlkM g M_X10_reduce x0 Q 2 [(0, .ref x0), (1, .int (nI r)), (2, .int (nI k))] [] (mR s R) := by
  intro m
  induction m with
  | zero =>
    intro k R x e hk hR hx hD hd he ho
    have : k = 168 := by omega
    subst this
    exact v_X10_reduce_2 ⟨⟨by decide, by decide⟩, fun _ => hp R x e hR hx hd ho, fun q => absurd q (by decide)⟩
  | succ m ih =>
    intro k R x e hk hR hx hD hd he ho
    have hpk := xpr_b k
    have inner : ∀ (d : Nat) (R : St) (x : Nat) (e : Nat → Nat), e k = d → Rw R r x e → x * D = X * pw e 168 → (∀ j, j < k → 0 < e j → ¬ x % xpr j = 0) → (∀ j, j < 168 → e j < 2 ^ 31) → oth r R0 R → BlkM g M_X10_reduce x0 Q 31 [(0, .ref x0), (1, .int (nI r)), (2, .int (nI k))] [] (mR s R) := by
      intro d
      induction d with
      | zero =>
        intro R x e hek hR hx hd he ho
        have hq : (mR s R).pw (168 * r + k) = 0 := (hR.2 k (by omega)).trans hek
        refine v_X10_reduce_31 ⟨by omega, by omega, fun _ => ih (k + 1) R x e (by omega) hR hx hD (fun j hj he0 => ?_) he ho, fun q => absurd q (by omega)⟩
        by_cases z : j = k
        · subst z; omega
        · exact hd j (by omega) he0
      | succ d ihd =>
        intro R x e hek hR hx hd he ho
        have hq : (mR s R).pw (168 * r + k) = d + 1 := (hR.2 k (by omega)).trans hek
        have hq2 := he k (by omega)
        have hpr : (mR s R).pr k = xpr k := hP k (by omega)
        refine v_X10_reduce_31 ⟨by omega, by omega, fun q => absurd q (by omega), fun _ => ⟨by omega, by omega, ?_⟩⟩
        rw [hpr]
        refine m_restBy (s := mR s R) hr hR (by omega) ⟨_, rfl, ⟨?_, by decide⟩, fun z => ih (k + 1) R x e (by omega) hR hx hD (fun j hj he0 => ?_) he ho, fun z => ⟨by omega, by omega, ?_⟩⟩
        · have := Nat.mod_lt x (show xpr k > 0 by omega)
          omega
        · by_cases y : j = k
          · subst y; exact z
          · exact hd j (by omega) he0
        · rw [hpr]
          refine m_divide (s := mR s R) hr hR (by omega) (fun R' k1 o1 => ⟨rfl, by omega, ?_, by omega, ?_⟩)
          · have : (mR (mR s R) R').pw (168 * r + k) = d + 1 := (k1.2 k (by omega)).trans hek
            omega
          · have hpe : (mR (mR s R) R').pw (168 * r + k) - 1 = e k - 1 := by
              have : (mR (mR s R) R').pw (168 * r + k) = e k := k1.2 k (by omega)
              omega
            rw [hpe]
            have hxx : x / xpr k * xpr k = x := Nat.div_mul_cancel (Nat.dvd_of_mod_eq_zero z)
            have hdn := pw_dn1 (e := e) (k := k) (n := 168) (by omega) (by omega)
            refine ihd (R'.1, R'.2.1, va_up R'.2.2 (168 * r + k) (e k - 1)) (x / xpr k) (va_up e k (e k - 1)) (by rw [up_s]; omega) (k1.pow (by omega)) ?_ (fun j hj he0 => ?_) (fun j hj => ?_) ((ho.tr o1).pow (by omega))
            · have h1 : x / xpr k * D * xpr k = X * pw (va_up e k (e k - 1)) 168 * xpr k := by
                have : x / xpr k * D * xpr k = (x / xpr k * xpr k) * D := by grind
                rw [this, hxx, hx, ← hdn]
                grind
              exact Nat.eq_of_mul_eq_mul_right (by omega) h1
            · rw [up_n (by omega)] at he0
              intro y
              refine hd j hj he0 ?_
              have : xpr j ∣ x := by
                rw [← hxx]
                exact Nat.dvd_trans (Nat.dvd_of_mod_eq_zero y) (Nat.dvd_mul_right _ _)
              exact Nat.mod_eq_zero_of_dvd this
            · by_cases y : j = k
              · subst y; rw [up_s]; omega
              · rw [up_n y]; exact he j hj
    have hz := bv_zero_iff hR.1.2.2.2.1
    rw [hR.1.2.2.2.2] at hz
    have hln : (mR s R).ln r = R.2.1 r := rfl
    have hlb := hR.1.1
    refine v_X10_reduce_2 ⟨⟨by omega, by decide⟩, fun q => absurd q (by omega), fun _ => ⟨hr, by omega, fun _ => inner _ R x e rfl hR hx hd he ho, fun q => ⟨by omega, ?_⟩⟩⟩
    have hx0 : x = 0 := hz.mpr (by omega)
    subst hx0
    have hX : X = 0 := by
      have hpp := pw_pos (e := e) 168
      rw [Nat.zero_mul] at hx
      rcases Nat.eq_zero_or_pos X with z | z
      · exact z
      · have := Nat.mul_pos z hpp
        omega
    subst hX
    refine inner 0 (R.1, R.2.1, va_up R.2.2 (168 * r + k) 0) 0 (va_up e k 0) up_s (hR.pow (by omega)) (by rw [Nat.zero_mul, Nat.zero_mul]) (fun j hj he0 => ?_) (fun j hj => ?_) (ho.pow (by omega))
    · rw [up_n (by omega)] at he0
      exact hd j hj he0
    · by_cases y : j = k
      · subst y; rw [up_s]; decide
      · rw [up_n y]; exact he j hj
theorem pwB {e : Nat → Nat} (h : pw e 168 < 1000000000 ^ 160) : ∀ j, j < 168 → e j < 2 ^ 31 := by
  intro j hj
  have h1 : (1000000000 : Nat) ^ 160 < 2 ^ 4800 := by decide +kernel
  have := pw_exp (e := e) (B := 4800) hj (Nat.lt_trans h h1)
  omega
theorem m_reduce {r x : Nat} {e : Nat → Nat} (hr : r < 84) (hP : prOK s) (hR : Rw s.R r x e) (hB : pw e 168 < 1000000000 ^ 160) (hp : ∀ R' x' e', Rw R' r x' e' → x' * pw e 168 = x * pw e' 168 → red x' e' → oth r s.R R' → Q none (mR s R')) : CtM g M_X10_reduce [.ref x0, .int (nI r)] x0 s Q :=
  CtM.of (by decide +kernel) (Nat.le_of_ble_eq_true rfl) (v_X10_reduce_0 (l_red (s := s) hr hP s.R hp 168 0 s.R x e (by decide) hR rfl (pw_pos _) (fun j hj => absurd hj (by omega)) (pwB hB) oth.rf))
theorem l_part {r x D : Nat} (hr : r < 84) (hP : prOK s) (R0 : St) (hB : D < 1000000000 ^ 160) (hp : ∀ R' x' e', Rw R' r x' e' → x' * D = x * pw e' 168 → red x' e' → oth r R0 R' → Q none (mR s R')) :
    ∀ (m k : Nat) (R : St) (t : Nat) (e : Nat → Nat), k + m = 168 → Rw R r x e → pw e 168 * t = D → 1 ≤ t → t ≤ 1000 → (∀ j, j < k → ¬ t % xpr j = 0) → oth r R0 R → BlkM g M_X10_part x0 Q 26 [(0, .ref x0), (1, .int (nI r)), (5, .int (nI t)), (6, .int (nI k))] [] (mR s R) := by
  intro m
  induction m with
  | zero =>
    intro k R t e hk hR ht h1 h2 hd ho
    have : k = 168 := by omega
    subst this
    have ht1 : t = 1 := by
      rcases Nat.lt_or_ge t 2 with z | z
      · omega
      · obtain ⟨j, hj, hj2⟩ := List.any_eq_true.mp (smooth_tab t (by omega) z)
        exact absurd (by simpa using hj2) (hd j (List.mem_range.mp hj))
    subst ht1
    rw [Nat.mul_one] at ht
    subst ht
    exact v_X10_part_26 ⟨⟨by decide, by decide⟩, fun _ => m_reduce (s := mR s R) hr hP hR hB (fun R' x' e' k1 k2 k3 k4 => ⟨rfl, hp R' x' e' k1 k2 k3 (ho.tr k4)⟩), fun q => absurd q (by decide)⟩
  | succ m ih =>
    intro k R t e hk hR ht h1 h2 hd ho
    have hpk := xpr_b k
    refine v_X10_part_26 ⟨⟨by omega, by decide⟩, fun q => absurd q (by omega), fun _ => ⟨⟨by omega, by decide⟩, fun q => ?_, fun q => ?_⟩⟩
    · have ht1 : t = 1 := by omega
      subst ht1
      rw [Nat.mul_one] at ht
      subst ht
      exact m_reduce (s := mR s R) hr hP hR hB (fun R' x' e' k1 k2 k3 k4 => ⟨rfl, hp R' x' e' k1 k2 k3 (ho.tr k4)⟩)
    · have inner : ∀ (w : Nat) (R : St) (t : Nat) (e : Nat → Nat), t ≤ w → Rw R r x e → pw e 168 * t = D → 1 ≤ t → t ≤ 1000 → (∀ j, j < k → ¬ t % xpr j = 0) → oth r R0 R → BlkM g M_X10_part x0 Q 40 [(0, .ref x0), (1, .int (nI r)), (5, .int (nI t)), (6, .int (nI k))] [] (mR s R) := by
        intro w
        induction w with
        | zero => intro R t e hw; omega
        | succ w ihw =>
          intro R t e hw hR ht h1 h2 hd ho
          have hpr : (mR s R).pr k = xpr k := hP k (by omega)
          have hml := Nat.mod_lt t (show xpr k > 0 by omega)
          have hpw : (mR s R).pw (168 * r + k) = e k := hR.2 k (by omega)
          refine v_X10_part_40 ⟨by omega, ?_⟩
          rw [hpr, hpw]
          refine ⟨⟨by omega, by omega, by omega⟩, by omega, fun z => ih (k + 1) R t e (by omega) hR ht h1 h2 (fun j hj => ?_) ho, fun z => ⟨by omega, by omega, by omega, ⟨by omega, by omega, by omega⟩, ?_⟩⟩
          · by_cases y : j = k
            · subst y; exact z
            · exact hd j (by omega)
          · have htt : t / xpr k * xpr k = t := Nat.div_mul_cancel (Nat.dvd_of_mod_eq_zero z)
            have hlt : t / xpr k < t := Nat.div_lt_self (by omega) (by omega)
            have hge : 1 ≤ t / xpr k := by
              rcases Nat.eq_zero_or_pos (t / xpr k) with y | y
              · rw [y] at htt; omega
              · exact y
            refine ihw (R.1, R.2.1, va_up R.2.2 (168 * r + k) (e k + 1)) (t / xpr k) (va_up e k (e k + 1)) (by omega) (hR.pow (by omega)) ?_ hge (by omega) (fun j hj y => ?_) (ho.pow (by omega))
            · rw [pw_up1 (by omega), ← ht, ← htt]
              grind
            · refine hd j hj ?_
              refine Nat.mod_eq_zero_of_dvd ?_
              rw [← htt]
              exact Nat.dvd_trans (Nat.dvd_of_mod_eq_zero y) (Nat.dvd_mul_right _ _)
      exact inner t R t e (Nat.le_refl _) hR ht h1 h2 hd ho
theorem m_part {r x a b : Nat} {e : Nat → Nat} (hr : r < 84) (hP : prOK s) (hR : Rw s.R r x e) (ha : a < 1000000000) (hb : 1 ≤ b ∧ b ≤ 1000) (hx : x * a < 1000000000 ^ 160) (hB : pw e 168 * b < 1000000000 ^ 160) (hp : ∀ R' x' e', Rw R' r x' e' → x' * (pw e 168 * b) = x * a * pw e' 168 → red x' e' → oth r s.R R' → Q none (mR s R')) : CtM g M_X10_part [.ref x0, .int (nI r), .long (lN a), .int (nI b)] x0 s Q := by
  refine CtM.of (by decide +kernel) (Nat.le_of_ble_eq_true rfl) (v_X10_part_0 ⟨⟨by omega, by decide⟩, fun q => ?_, fun q => ?_⟩)
  · refine m_times hr hR ⟨by omega, ha⟩ hx (fun R' k1 o1 => ⟨rfl, ?_⟩)
    exact l_part (s := s) hr hP s.R hB hp 168 0 R' b e (by decide) k1 rfl hb.1 hb.2 (fun j hj => absurd hj (by omega)) o1
  · subst q
    refine m_set hr (by decide) (fun R' k1 o1 => ⟨rfl, hp R' 0 _ k1 ?_ (fun k _ h => absurd h (by decide)) o1⟩)
    rw [Nat.zero_mul, Nat.mul_zero, Nat.zero_mul]
theorem l_mcmp {a b u x y : Nat} (ha : a < 84) (hb : b < 84) (hu : u ≤ 160) (hf : ∀ i, i < u → vw s.lb a i < 1000000000) (he : ∀ i, i < u → vw s.lb b i < 1000000000) (hp : Q (some (.int (cmpN x y))) s) : ∀ (i H : Nat), i ≤ u → x = bv (vw s.lb a) i + H * 1000000000 ^ i → y = bv (vw s.lb b) i + H * 1000000000 ^ i → BlkM g M_X10_compare x0 Q 45 [(0, .ref x0), (1, .int (nI a)), (2, .int (nI b)), (3, .int (nI i - nI 1))] [] s := by
  intro i
  induction i with
  | zero =>
    intro H hi h1 h2
    refine v_X10_compare_45 ⟨by decide, fun _ => ?_, fun q => absurd q (by omega)⟩
    have : x = y := h1.trans h2.symm
    subst this
    unfold cmpN at hp
    rw [if_neg (by omega), if_pos rfl] at hp
    exact hp
  | succ i ih =>
    intro H hi h1 h2
    have f1 := hf i (by omega)
    have e1 := he i (by omega)
    have ea : s.lb (160 * a + i) = vw s.lb a i := rfl
    have eb : s.lb (160 * b + i) = vw s.lb b i := rfl
    refine v_X10_compare_45 ⟨by omega, fun q => absurd q (by omega), fun _ => ⟨160 * a + i, ixP, by omega, 160 * b + i, ixP, by omega, ?_⟩⟩
    rw [ea, eb]
    refine ⟨⟨by omega, by omega⟩, fun q => ⟨by omega, ?_⟩, fun q => ⟨⟨by omega, by omega⟩, fun q2 => ?_, fun q2 => ?_⟩⟩
    · rw [Nat.add_sub_cancel]
      refine ih (H * 1000000000 + vw s.lb a i) (by omega) ?_ ?_
      · rw [h1, Nat.pow_succ]
        show bv (vw s.lb a) i + vw s.lb a i * 1000000000 ^ i + _ = _
        grind
      · rw [h2, Nat.pow_succ, q]
        show bv (vw s.lb b) i + vw s.lb b i * 1000000000 ^ i + _ = _
        grind
    · have := bv_digitlt (f := vw s.lb b) (e := vw s.lb a) (i := i) (fun j hj => he j (by omega)) (by omega)
      unfold cmpN at hp
      rw [if_neg (by omega), if_neg (by omega)] at hp
      exact hp
    · have := bv_digitlt (f := vw s.lb a) (e := vw s.lb b) (i := i) (fun j hj => hf j (by omega)) q2
      unfold cmpN at hp
      rw [if_pos (by omega)] at hp
      exact hp
theorem m_compare {a b x y : Nat} {e e' : Nat → Nat} (ha : a < 84) (hb : b < 84) (hA : Rw s.R a x e) (hB : Rw s.R b y e') (hp : Q (some (.int (cmpN x y))) s) : CtM g M_X10_compare [.ref x0, .int (nI a), .int (nI b)] x0 s Q := by
  obtain ⟨⟨k1, k2, k3, k4, k5⟩, -⟩ := hA
  obtain ⟨⟨m1, m2, m3, m4, m5⟩, -⟩ := hB
  replace k1 : s.ln a ≤ 160 := k1
  replace m1 : s.ln b ≤ 160 := m1
  refine CtM.of (by decide +kernel) (Nat.le_of_ble_eq_true rfl) (v_X10_compare_0 ⟨ha, hb, ⟨by omega, by omega⟩, fun q => ⟨ha, ?_⟩, fun q => ⟨ha, hb, ⟨by omega, by omega⟩, fun q2 => ?_, fun q2 => ?_⟩⟩)
  · have m3' : ∀ i, i < s.ln a → vw s.lb b i < 1000000000 := fun i hi => m3 i (by show i < s.ln b; omega)
    have m5' : bv (vw s.lb b) (s.ln a) = y := by rw [q]; exact m5
    have k5' : bv (vw s.lb a) (s.ln a) = x := k5
    exact l_mcmp ha hb k1 k3 m3' hp (s.ln a) 0 (Nat.le_refl _) (by omega) (by omega)
  · obtain ⟨u', hu⟩ : ∃ u', s.ln a = u' + 1 := ⟨s.ln a - 1, by omega⟩
    have h1 := bv_ge (k4 u' hu)
    have k5' : bv (vw s.lb a) (s.ln a) = x := k5
    rw [hu] at k5'
    have h2 : y < 1000000000 ^ s.ln b := by rw [← m5]; exact bv_lt m3
    have h3 := BBmono (a := s.ln b) (b := u') (by omega)
    replace h1 : 1000000000 ^ u' ≤ bv (vw s.lb a) (u' + 1) := h1
    unfold cmpN at hp
    rw [if_neg (by omega), if_neg (by omega)] at hp
    exact hp
  · obtain ⟨z', hu⟩ : ∃ z', s.ln b = z' + 1 := ⟨s.ln b - 1, by omega⟩
    have h1 := bv_ge (m4 z' hu)
    have m5' : bv (vw s.lb b) (s.ln b) = y := m5
    rw [hu] at m5'
    have h2 : x < 1000000000 ^ s.ln a := by rw [← k5]; exact bv_lt k3
    have h3 := BBmono (a := s.ln a) (b := z') (by omega)
    replace h1 : 1000000000 ^ z' ≤ bv (vw s.lb b) (z' + 1) := h1
    unfold cmpN at hp
    rw [if_pos (by omega)] at hp
    exact hp
theorem l_below {r t x : Nat} {e : Nat → Nat} (hr : r < 84) (ht : t < 84) (hrt : r ≠ t) (hP : prOK s) (R0 : St) (hB : pw e 168 < 1000000000 ^ 160) (hp : ∀ R', Rw R' t (pw e 168) (fun _ => 0) → oth t R0 R' → Q none (mR s R')) :
    ∀ (m k : Nat) (R : St), k + m = 168 → Rw R r x e → Rw R t (pw e k) (fun _ => 0) → oth t R0 R → BlkM g M_X10_below x0 Q 8 [(0, .ref x0), (1, .int (nI r)), (2, .int (nI t)), (3, .int (nI k))] [] (mR s R) := by
  intro m
  induction m with
  | zero =>
    intro k R hk hR hT ho
    have : k = 168 := by omega
    subst this
    exact v_X10_below_8 ⟨⟨by decide, by decide⟩, fun _ => hp R hT ho, fun q => absurd q (by decide)⟩
  | succ m ih =>
    intro k R hk hR hT ho
    have hpk := xpr_b k
    have hpe := pwB hB k (by omega)
    have inner : ∀ (w n : Nat) (R : St), n + w = e k → Rw R r x e → Rw R t (pw e k * xpr k ^ n) (fun _ => 0) → oth t R0 R → BlkM g M_X10_below x0 Q 18 [(0, .ref x0), (1, .int (nI r)), (2, .int (nI t)), (3, .int (nI k)), (4, .int (nI n))] [] (mR s R) := by
      intro w
      induction w with
      | zero =>
        intro n R hn hR hT ho
        have hq : (mR s R).pw (168 * r + k) = e k := hR.2 k (by omega)
        refine v_X10_below_18 ⟨by omega, ⟨by omega, by omega⟩, fun _ => ih (k + 1) R (by omega) hR ?_ ho, fun q => absurd q (by omega)⟩
        have : n = e k := by omega
        subst this
        exact hT
      | succ w ihw =>
        intro n R hn hR hT ho
        have hq : (mR s R).pw (168 * r + k) = e k := hR.2 k (by omega)
        have hpr : (mR s R).pr k = xpr k := hP k (by omega)
        refine v_X10_below_18 ⟨by omega, ⟨by omega, by omega⟩, fun q => absurd q (by omega), fun _ => ⟨by omega, by omega, ?_⟩⟩
        rw [hpr]
        have hle : pw e k * xpr k ^ n * xpr k ≤ pw e 168 := by
          have h1 : pw e k * xpr k ^ n * xpr k = pw e k * xpr k ^ (n + 1) := by rw [Nat.pow_succ]; grind
          have h2 : pw e k * xpr k ^ (n + 1) ≤ pw e k * xpr k ^ e k := Nat.mul_le_mul_left _ (Nat.pow_le_pow_right (by omega) (by omega))
          have h3 : pw e (k + 1) ≤ pw e 168 := pw_le (by omega)
          have h4 : pw e (k + 1) = pw e k * xpr k ^ e k := rfl
          omega
        refine m_times (s := mR s R) ht hT (by omega) (Nat.lt_of_le_of_lt hle hB) (fun R' k1 o1 => ⟨rfl, ihw (n + 1) R' (by omega) (hR.oth o1 hrt) ?_ (ho.tr o1)⟩)
        rw [Nat.pow_succ, ← Nat.mul_assoc]
        exact k1
    refine v_X10_below_8 ⟨⟨by omega, by decide⟩, fun q => absurd q (by omega), fun _ => inner (e k) 0 R (by omega) hR ?_ ho⟩
    rw [Nat.pow_zero, Nat.mul_one]
    exact hT
theorem m_below {r t x : Nat} {e : Nat → Nat} (hr : r < 84) (ht : t < 84) (hrt : r ≠ t) (hP : prOK s) (hR : Rw s.R r x e) (hB : pw e 168 < 1000000000 ^ 160) (hp : ∀ R', Rw R' t (pw e 168) (fun _ => 0) → oth t s.R R' → Q none (mR s R')) : CtM g M_X10_below [.ref x0, .int (nI r), .int (nI t)] x0 s Q :=
  CtM.of (by decide +kernel) (Nat.le_of_ble_eq_true rfl) (v_X10_below_0 (m_set ht (by decide) (fun R' k1 o1 => ⟨rfl, l_below (s := s) hr ht hrt hP s.R hB hp 168 0 R' (by decide) (hR.oth o1 hrt) k1 o1⟩)))
theorem m_isLong {r x : Nat} {e e' : Nat → Nat} (hr : r < 73) (hP : prOK s) (hR : Rw s.R r x e) (h83 : Rw s.R 83 (2 ^ 600) e') (hB : pw e 168 < 1000000000 ^ 160) (hp : ∀ R', oth 73 s.R R' → Q (some (.int (nI (if x < 2 ^ 600 ∧ pw e 168 < 2 ^ 600 then 0 else 1)))) (mR s R')) : CtM g M_X10_isLong [.ref x0, .int (nI r)] x0 s Q := by
  have c0 : ∀ v w : Nat, (0 : Int32) ≤ cmpN v w ↔ w ≤ v := by
    intro v w
    unfold cmpN
    by_cases q : v < w
    · rw [if_pos q]
      exact ⟨fun z => absurd z (by decide), fun z => by omega⟩
    · rw [if_neg q]
      refine ⟨fun _ => by omega, fun _ => ?_⟩
      by_cases q2 : v = w
      · rw [if_pos q2]; decide
      · rw [if_neg q2]; decide
  refine CtM.of (by decide +kernel) (Nat.le_of_ble_eq_true rfl) (v_X10_isLong_0 (m_below (by omega) (by decide) (by omega) hP hR hB (fun R' k1 o1 => ⟨rfl, m_compare (s := mR s R') (by omega) (by decide) (hR.oth o1 (by omega)) (h83.oth o1 (by omega)) ⟨_, rfl, fun q => ?_, fun q => m_compare (s := mR s R') (by decide) (by decide) k1 (h83.oth o1 (by omega)) ⟨_, rfl, fun q2 => ?_, fun q2 => ?_⟩⟩⟩)))
  · have := hp R' o1
    rw [if_neg (by rw [c0] at q; omega)] at this
    exact this
  · have := hp R' o1
    rw [← Int32.not_le, c0] at q2
    rw [c0] at q
    rw [if_pos (by omega)] at this
    exact this
  · have := hp R' o1
    rw [← Int32.not_le, Decidable.not_not, c0] at q2
    rw [if_neg (by omega)] at this
    exact this
theorem m_digits {r k x : Nat} {e : Nat → Nat} (hr : r < 84) (hR : Rw s.R r x e) (hk : k < 2 ^ 30) (hp : Q (some (.long (lN (x / 1000000000 ^ (2 * k) % 1000000000000000000)))) s) : CtM g M_X10_digits [.ref x0, .int (nI r), .int (nI k)] x0 s Q := by
  have hlt := hR.lt
  obtain ⟨⟨k1, k2, k3, k4, k5⟩, -⟩ := hR
  have d0 := bv_digit (u := s.ln r) (i := 2 * k) k3
  have d1 := bv_digit (u := s.ln r) (i := 2 * k + 1) k3
  replace k5 : bv (vw s.lb r) (s.ln r) = x := k5
  replace k1 : s.ln r ≤ 160 := k1
  replace d0 : bv (vw s.lb r) (s.ln r) / 1000000000 ^ (2 * k) % 1000000000 = if 2 * k < s.ln r then vw s.lb r (2 * k) else 0 := d0
  replace d1 : bv (vw s.lb r) (s.ln r) / 1000000000 ^ (2 * k + 1) % 1000000000 = if 2 * k + 1 < s.ln r then vw s.lb r (2 * k + 1) else 0 := d1
  rw [k5] at d0 d1
  rw [Nat.pow_succ, ← Nat.div_div_eq_div_mul] at d1
  have e0 : s.lb (160 * r + 2 * k) = vw s.lb r (2 * k) := rfl
  have e1 : s.lb (160 * r + 2 * k + 1) = vw s.lb r (2 * k + 1) := rfl
  refine CtM.of (by decide +kernel) (Nat.le_of_ble_eq_true rfl) (v_X10_digits_0 ⟨⟨by omega, by decide⟩, fun q => ?_, fun q => ⟨hr, ⟨by omega, by omega⟩, fun q1 => ⟨hr, ⟨by omega, by omega⟩, fun q2 => ?_, fun q2 => ⟨by omega, ?_⟩⟩, fun q1 => ⟨by omega, hr, ⟨by omega, by omega⟩, fun q2 => absurd q2 (by omega), fun q2 => ⟨by omega, ?_⟩⟩⟩⟩)
  · have : x / 1000000000 ^ (2 * k) = 0 := Nat.div_eq_of_lt (Nat.lt_of_lt_of_le hlt (BBmono (by omega)))
    rw [this] at hp
    exact hp
  · rw [if_neg (by omega)] at d0 d1
    have e : x / 1000000000 ^ (2 * k) % 1000000000000000000 = 0 := by omega
    rw [e] at hp
    exact hp
  · rw [if_pos q2] at d0
    rw [if_neg (by omega)] at d1
    rw [e0]
    have e : x / 1000000000 ^ (2 * k) % 1000000000000000000 = 0 + vw s.lb r (2 * k) := by omega
    rw [e] at hp
    exact hp
  · rw [if_pos q2] at d0
    rw [if_pos q1] at d1
    rw [e0, e1]
    have e : x / 1000000000 ^ (2 * k) % 1000000000000000000 = vw s.lb r (2 * k + 1) * 1000000000 + vw s.lb r (2 * k) := by omega
    rw [e] at hp
    exact hp
theorem m_partOf {r x : Nat} {e : Nat → Nat} {p : Int32} (hr : r < 84) (hr2 : r ≠ 73) (hP : prOK s) (hR : Rw s.R r x e) (hB : pw e 168 < 1000000000 ^ 160) (hp : ∀ R', oth 73 s.R R' → Q (some (.long (lN (dgt x (pw e 168) p)))) (mR s R')) : CtM g M_X10_partOf [.ref x0, .int (nI r), .int p] x0 s Q := by
  refine CtM.of (by decide +kernel) (Nat.le_of_ble_eq_true rfl) (v_X10_partOf_0 ⟨fun q => ?_, fun q => ?_⟩)
  · refine m_below hr (by decide) hr2 hP hR hB (fun R' k1 o1 => ⟨rfl, by decide, ?_⟩)
    obtain ⟨k, hk, rfl⟩ := nI_of (Int32.not_lt.mpr q)
    have hkd : nI k / nI 2 = nI (k / 2) := pk_div hk (by decide) (by decide)
    have hkr : nI k - nI (k / 2) * nI 2 = nI (k % 2) := by
      rw [pk_mul, pk_sub (by omega)]
      congr 1
      omega
    have hdg : dgt x (pw e 168) (nI k) = (if k % 2 = 0 then x else pw e 168) / 1000000000 ^ (2 * (k / 2)) % 1000000000000000000 := by
      unfold dgt
      rw [if_neg (nI_pos hk)]
      rw [nI_clamp hk]
    rw [hkd, hkr]
    refine ⟨fun q2 => ⟨by decide, m_digits (s := mR s R') (by decide) k1 (by omega) ⟨_, rfl, ?_⟩⟩, fun q2 => ⟨by decide, m_digits (s := mR s R') hr (hR.oth o1 hr2) (by omega) ⟨_, rfl, ?_⟩⟩⟩
    · have := hp R' o1
      rw [hdg, if_neg (fun z => q2 (by rw [z]; rfl))] at this
      exact this
    · have := hp R' o1
      have hz : k % 2 = 0 := by
        rcases Nat.mod_two_eq_zero_or_one k with z | z
        · exact z
        · rw [z] at q2
          exact absurd q2 (by decide)
      rw [hdg, if_pos hz] at this
      exact this
  · have := hp s.R oth.rf
    unfold dgt at this
    rw [if_pos (Int32.not_le.mp q)] at this
    exact this
end M3
