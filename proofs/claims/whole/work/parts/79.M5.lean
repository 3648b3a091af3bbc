/-! the reference: adding and taking; rows as fractions -/
theorem ln_subpos {x y b : Nat} (q : y + b ≤ x) : lN x - lN y - lN b = lN (x - y - b) := by rw [lN_sub (by omega), lN_sub (by omega)]
theorem ln_subwrap {x y b c : Nat} (q : y + b ≤ x + c) : lN x - lN y - lN b + lN c = lN (x + c - y - b) := by
  have h : lN x - lN y - lN b + lN c = lN x + lN c - lN y - lN b := by grind
  rw [h, lN_add, lN_sub (by omega), lN_sub (by omega)]
theorem ln_subneg {x y b : Nat} (hx : x < 2 ^ 31) (hy : y + b < 2 ^ 31) (q : x < y + b) : ¬ lN 0 ≤ lN x - lN y - lN b := by
  intro z
  have h : lN x - lN y - lN b + lN (2 ^ 32) = lN (x + 2 ^ 32 - y - b) := ln_subwrap (by omega)
  have e : lN x - lN y - lN b = lN (x + 2 ^ 32 - y - b) - lN (2 ^ 32) := by rw [← h]; grind
  rw [e, Int64.le_iff_toInt_le, Int64.toInt_sub, pk_lT (by omega), pk_lT (by omega), pk_lT (by omega)] at z
  rw [Int.bmod_eq_of_le (by omega) (by omega)] at z
  omega
section M5
variable {g : xG} {Q : mQ} {s : MV} {x0 : Nat}
theorem l_madd {a A B u w n : Nat} {f0 h0 e : Nat → Nat} (ha : a < 84) (ha2 : a ≠ 72) (hP : prOK s) (R0 : St) (hu : R0.2.1 a = u) (hw : R0.2.1 72 = w) (hun : u ≤ n) (hwn : w ≤ n) (hn : n < 160) (hf : ∀ i, i < u → f0 i < 1000000000) (hh : ∀ i, i < w → h0 i < 1000000000) (hA : bv f0 u = A) (hB : bv h0 w = B) (h72 : ∀ i, i < 160 → vw R0.1 72 i = h0 i) (he : ∀ k, k < 168 → R0.2.2 (168 * a + k) = e k) (hE : pw e 168 < 1000000000 ^ 160)
    (hp : ∀ R' x' e', Rw R' a x' e' → x' * pw e 168 = (A + B) * pw e' 168 → red x' e' → oth a R0 R' → Q none (mR s R')) :
    ∀ (m i c : Nat) (lb : Nat → Nat), n - i = m → i ≤ n → (∀ j, j < 160 * a ∨ 160 * a + 160 ≤ j → lb j = R0.1 j) → (∀ j, i ≤ j → j < 160 → vw lb a j = f0 j) → (∀ j, j < i → vw lb a j < 1000000000) → c ≤ 1 → bv (vw lb a) i + c * 1000000000 ^ i = bv (cut0 u f0) i + bv (cut0 w h0) i →
    BlkM g M_X10_add x0 Q 53 [(0, .ref x0), (1, .int (nI a)), (3, .int (nI n)), (4, .long (lN c)), (6, .int (nI i))] [] (mR s (lb, R0.2.1, R0.2.2)) := by
  intro m
  have hu' : ∀ lb, (mR s (lb, R0.2.1, R0.2.2)).ln a = u := fun _ => hu
  have hw' : ∀ lb, (mR s (lb, R0.2.1, R0.2.2)).ln 72 = w := fun _ => hw
  induction m with
  | zero =>
    intro i c lb hm hi ho hs hlt hc hq
    have : i = n := by omega
    subst this
    refine v_X10_add_53 ⟨⟨by omega, by omega⟩, fun _ => ⟨by omega, ha, ?_⟩, fun q => absurd q (by omega)⟩
    rw [bv_cut i hun, bv_cut i hwn, hA, hB] at hq
    refine m_trim (u := i + 1) (x := A + B) ha ?_ (by omega) (fun j hj => ?_) ?_ (fun R' k1 k2 k3 => ⟨rfl, ?_⟩)
    · show va_up R0.2.1 a (i + 1) a = _
      exact up_s
    · show vw (va_up lb (160 * a + i) c) a j < _
      rw [vw_up]
      by_cases q : j = i
      · subst q; rw [up_s]; omega
      · rw [up_n q]; exact hlt j (by omega)
    · show bv (vw (va_up lb (160 * a + i) c) a) (i + 1) = _
      rw [vw_up]
      show bv (va_up (vw lb a) i c) i + va_up (vw lb a) i c i * 1000000000 ^ i = _
      rw [bv_up (Nat.le_refl _), up_s, hq]
    · have hR : Rw R' a (A + B) e := ⟨k1, fun k hk => by rw [k2]; exact he k hk⟩
      refine m_reduce (s := mR s R') ha hP hR hE (fun R2 x' e' j1 j2 j3 j4 => ⟨rfl, hp R2 x' e' j1 j2 j3 (oth.tr ?_ j4)⟩)
      exact ⟨fun q hq => (k3.1 q hq).trans (up_n hq), fun j hj => (k3.2.1 j hj).trans ((up_n (by omega)).trans (ho j hj)), k3.2.2⟩
  | succ m ih =>
    intro i c lb hm hi ho hs hlt hc hq
    have hfi : vw lb a i = f0 i := hs i (Nat.le_refl _) (by omega)
    have hhi : vw lb 72 i = h0 i := by
      rw [← h72 i (by omega)]
      exact ho _ (by omega)
    have e1 : (mR s (lb, R0.2.1, R0.2.2)).lb (160 * a + i) = vw lb a i := rfl
    have e2 : (mR s (lb, R0.2.1, R0.2.2)).lb (11520 + i) = vw lb 72 i := rfl
    have lF : cut0 u f0 i < 1000000000 := by
      unfold cut0
      by_cases q : i < u
      · rw [if_pos q]; exact hf i q
      · rw [if_neg q]; decide
    have lG : cut0 w h0 i < 1000000000 := by
      unfold cut0
      by_cases q : i < w
      · rw [if_pos q]; exact hh i q
      · rw [if_neg q]; decide
    have next : ∀ v, v = c + cut0 u f0 i + cut0 w h0 i → (v < 2 ^ 63 ∧ 0 < 1000000000 ∧ 1000000000 < 2 ^ 63) ∧ 160 * a + i < 13440 ∧ (v < 2 ^ 63 ∧ 0 < 1000000000 ∧ 1000000000 < 2 ^ 63) ∧ BlkM g M_X10_add x0 Q 53 [(0, .ref x0), (1, .int (nI a)), (3, .int (nI n)), (4, .long (lN (v / 1000000000))), (6, .int (nI (i + 1)))] [] (MV.u_lb (mR s (lb, R0.2.1, R0.2.2)) (va_up lb (160 * a + i) (v % 1000000000))) := by
      intro v hv
      refine ⟨⟨by omega, by decide, by decide⟩, by omega, ⟨by omega, by decide, by decide⟩, ?_⟩
      refine ih (i + 1) (v / 1000000000) (va_up lb (160 * a + i) (v % 1000000000)) (by omega) (by omega) (fun j hj => (up_n (by omega)).trans (ho j hj)) (fun j hj hj2 => ?_) (fun j hj => ?_) (by omega) ?_
      · rw [vw_up, up_n (by omega)]; exact hs j (by omega) hj2
      · rw [vw_up]
        by_cases q : j = i
        · subst q; rw [up_s]; exact Nat.mod_lt _ (by decide)
        · rw [up_n q]; exact hlt j (by omega)
      · rw [vw_up]
        show (bv (va_up (vw lb a) i (v % 1000000000)) i + va_up (vw lb a) i (v % 1000000000) i * 1000000000 ^ i) + v / 1000000000 * 1000000000 ^ (i + 1) = (bv (cut0 u f0) i + cut0 u f0 i * 1000000000 ^ i) + (bv (cut0 w h0) i + cut0 w h0 i * 1000000000 ^ i)
        rw [bv_up (Nat.le_refl _), up_s, Nat.pow_succ]
        exact bv_addstep hq (by omega)
    refine v_X10_add_53 ⟨⟨by omega, by omega⟩, fun q => absurd q (by omega), fun _ => ⟨ha, ?_⟩⟩
    rw [hu', hw', e1, e2]
    refine ⟨⟨by omega, by omega⟩, fun q1 => ⟨by decide, ⟨by omega, by omega⟩, fun q2 => next _ ?_, fun q2 => ⟨by omega, next _ ?_⟩⟩, fun q1 => ⟨by omega, by decide, ⟨by omega, by omega⟩, fun q2 => next _ ?_, fun q2 => ⟨by omega, next _ ?_⟩⟩⟩
    · unfold cut0; rw [if_neg (by omega), if_neg (by omega)]
    · unfold cut0; rw [if_neg (by omega), if_pos q2, hhi]
    · unfold cut0; rw [if_pos q1, if_neg (by omega), hfi]
    · unfold cut0; rw [if_pos q1, if_pos q2, hfi, hhi]
theorem l_mtake {a A B u w : Nat} {f0 h0 e : Nat → Nat} (ha : a < 84) (ha2 : a ≠ 72) (hP : prOK s) (R0 : St) (hu : R0.2.1 a = u) (hw : R0.2.1 72 = w) (hwu : w ≤ u) (hu160 : u ≤ 160) (hf : ∀ i, i < u → f0 i < 1000000000) (hh : ∀ i, i < w → h0 i < 1000000000) (hA : bv f0 u = A) (hB : bv h0 w = B) (hle : B ≤ A) (h72 : ∀ i, i < 160 → vw R0.1 72 i = h0 i) (he : ∀ k, k < 168 → R0.2.2 (168 * a + k) = e k) (hE : pw e 168 < 1000000000 ^ 160)
    (hp : ∀ R' x' e', Rw R' a x' e' → x' * pw e 168 = (A - B) * pw e' 168 → red x' e' → oth a R0 R' → Q none (mR s R')) :
    ∀ (m i c : Nat) (lb : Nat → Nat), u - i = m → i ≤ u → (∀ j, j < 160 * a ∨ 160 * a + 160 ≤ j → lb j = R0.1 j) → (∀ j, i ≤ j → j < 160 → vw lb a j = f0 j) → (∀ j, j < i → vw lb a j < 1000000000) → c ≤ 1 → bv (vw lb a) i + bv (cut0 w h0) i = bv f0 i + c * 1000000000 ^ i →
    BlkM g M_X10_take x0 Q 19 [(0, .ref x0), (1, .int (nI a)), (3, .long (lN c)), (5, .int (nI i))] [] (mR s (lb, R0.2.1, R0.2.2)) := by
  intro m
  have hu' : ∀ lb, (mR s (lb, R0.2.1, R0.2.2)).ln a = u := fun _ => hu
  have hw' : ∀ lb, (mR s (lb, R0.2.1, R0.2.2)).ln 72 = w := fun _ => hw
  induction m with
  | zero =>
    intro i c lb hm hi ho hs hlt hc hq
    have : i = u := by omega
    subst this
    refine v_X10_take_19 ⟨ha, ?_⟩
    rw [hu', hw']
    refine ⟨⟨by omega, by omega⟩, fun _ => ?_, fun q => absurd q (by omega)⟩
    rw [bv_cut i hwu, hA, hB] at hq
    have hlt2 := bv_lt hlt
    have hc0 : c = 0 := by
      rcases Nat.eq_zero_or_pos c with z | z
      · exact z
      · have : c = 1 := by omega
        subst this
        omega
    subst hc0
    refine m_trim (u := i) (x := A - B) ha (hu' lb) hu160 hlt (by show bv (vw lb a) i = _; omega) (fun R' k1 k2 k3 => ⟨rfl, ?_⟩)
    have hR : Rw R' a (A - B) e := ⟨k1, fun k hk => by rw [k2]; exact he k hk⟩
    refine m_reduce (s := mR s R') ha hP hR hE (fun R2 x' e' j1 j2 j3 j4 => ⟨rfl, hp R2 x' e' j1 j2 j3 (oth.tr ?_ j4)⟩)
    exact ⟨k3.1, fun j hj => (k3.2.1 j hj).trans (ho j hj), k3.2.2⟩
  | succ m ih =>
    intro i c lb hm hi ho hs hlt hc hq
    have hfi : vw lb a i = f0 i := hs i (Nat.le_refl _) (by omega)
    have hfl := hf i (by omega)
    have hhi : vw lb 72 i = h0 i := by
      rw [← h72 i (by omega)]
      exact ho _ (by omega)
    have e1 : (mR s (lb, R0.2.1, R0.2.2)).lb (160 * a + i) = f0 i := hfi
    have e2 : (mR s (lb, R0.2.1, R0.2.2)).lb (11520 + i) = h0 i := hhi
    have next : ∀ (v c' : Nat), v < 1000000000 → c' ≤ 1 → v + cut0 w h0 i + c = f0 i + c' * 1000000000 → BlkM g M_X10_take x0 Q 19 [(0, .ref x0), (1, .int (nI a)), (3, .long (lN c')), (5, .int (nI (i + 1)))] [] (MV.u_lb (mR s (lb, R0.2.1, R0.2.2)) (va_up lb (160 * a + i) v)) := by
      intro v c' hv hc' hvc
      refine ih (i + 1) c' (va_up lb (160 * a + i) v) (by omega) (by omega) (fun j hj => (up_n (by omega)).trans (ho j hj)) (fun j hj hj2 => ?_) (fun j hj => ?_) hc' ?_
      · rw [vw_up, up_n (by omega)]; exact hs j (by omega) hj2
      · rw [vw_up]
        by_cases q : j = i
        · subst q; rw [up_s]; exact hv
        · rw [up_n q]; exact hlt j (by omega)
      · rw [vw_up]
        show (bv (va_up (vw lb a) i v) i + va_up (vw lb a) i v i * 1000000000 ^ i) + (bv (cut0 w h0) i + cut0 w h0 i * 1000000000 ^ i) = (bv f0 i + f0 i * 1000000000 ^ i) + c' * 1000000000 ^ (i + 1)
        rw [bv_up (Nat.le_refl _), up_s, Nat.pow_succ]
        exact bv_substep hq hvc
    have both : ∀ y, y < 1000000000 → cut0 w h0 i = y → (lN 0 ≤ lN (f0 i) - lN c - lN y → ((lN 0 ≤ lN (f0 i) - lN c - lN y → (∃ z : Nat, lN (f0 i) - lN c - lN y = lN z ∧ 160 * a + i < 13440 ∧ BlkM g M_X10_take x0 Q 19 [(0, .ref x0), (1, .int (nI a)), (3, .long (lN 0)), (5, .int (nI (i + 1)))] [] (MV.u_lb (mR s (lb, R0.2.1, R0.2.2)) (va_up lb (160 * a + i) z)))) ∧ (¬ lN 0 ≤ lN (f0 i) - lN c - lN y → (∃ z : Nat, lN (f0 i) - lN c - lN y + lN 1000000000 = lN z ∧ 160 * a + i < 13440 ∧ BlkM g M_X10_take x0 Q 19 [(0, .ref x0), (1, .int (nI a)), (3, .long (lN 0)), (5, .int (nI (i + 1)))] [] (MV.u_lb (mR s (lb, R0.2.1, R0.2.2)) (va_up lb (160 * a + i) z)))))) ∧ (¬ lN 0 ≤ lN (f0 i) - lN c - lN y → ((lN 0 ≤ lN (f0 i) - lN c - lN y → (∃ z : Nat, lN (f0 i) - lN c - lN y = lN z ∧ 160 * a + i < 13440 ∧ BlkM g M_X10_take x0 Q 19 [(0, .ref x0), (1, .int (nI a)), (3, .long (lN 1)), (5, .int (nI (i + 1)))] [] (MV.u_lb (mR s (lb, R0.2.1, R0.2.2)) (va_up lb (160 * a + i) z)))) ∧ (¬ lN 0 ≤ lN (f0 i) - lN c - lN y → (∃ z : Nat, lN (f0 i) - lN c - lN y + lN 1000000000 = lN z ∧ 160 * a + i < 13440 ∧ BlkM g M_X10_take x0 Q 19 [(0, .ref x0), (1, .int (nI a)), (3, .long (lN 1)), (5, .int (nI (i + 1)))] [] (MV.u_lb (mR s (lb, R0.2.1, R0.2.2)) (va_up lb (160 * a + i) z)))))) := by
      intro y hy hyc
      refine ⟨fun q => ⟨fun _ => ?_, fun z => absurd q z⟩, fun q => ⟨fun z => absurd z q, fun _ => ?_⟩⟩
      · have h2 : c + y ≤ f0 i := by
          rcases Nat.lt_or_ge (f0 i) (c + y) with z | z
          · exact absurd q (ln_subneg (by omega) (by omega) z)
          · exact z
        exact ⟨f0 i - c - y, ln_subpos h2, by omega, next _ 0 (by omega) (by omega) (by omega)⟩
      · have h2 : f0 i < c + y := by
          rcases Nat.lt_or_ge (f0 i) (c + y) with z | z
          · exact z
          · refine absurd ?_ q
            rw [ln_subpos z, pk_lLE (by decide) (by omega)]
            omega
        exact ⟨f0 i + 1000000000 - c - y, ln_subwrap (by omega), by omega, next _ 1 (by omega) (by omega) (by omega)⟩
    refine v_X10_take_19 ⟨ha, ?_⟩
    rw [hu', hw', e1, e2]
    refine ⟨⟨by omega, by omega⟩, fun q => absurd q (by omega), fun _ => ⟨by omega, by decide, ⟨by omega, by omega⟩, fun q => both 0 (by decide) ?_, fun q => ⟨by omega, both (h0 i) (hh i q) ?_⟩⟩⟩
    · unfold cut0; exact if_neg (by omega)
    · unfold cut0; exact if_pos q
end M5
