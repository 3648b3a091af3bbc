/-! Fraction -/
abbrev FracAt (h : xHp) (f N u l : Nat) : Prop := h f = some (xo 3 [.ref (f + 1), .ref (f + 3)]) ∧ BigAt h (f + 1) N u ∧ BigAt h (f + 3) N l
theorem FracAt.of {h h' : xHp} {f N u l lo sz : Nat} (k : FracAt h f N u l) (o : Off lo sz h h') (q : f + 5 ≤ lo ∨ lo + sz ≤ f) : FracAt h' f N u l :=
  ⟨(o f (by omega)).trans k.1, k.2.1.of o (by omega), k.2.2.of o (by omega)⟩
theorem FracAt.up {h h' : xHp} {f N u l v : Nat} (k : FracAt h f N u l) (o : Off (f + 1) 2 h h') (b : BigAt h' (f + 1) N v) : FracAt h' f N v l := ⟨(o f (by omega)).trans k.1, b, k.2.2.of o (by omega)⟩
theorem FracAt.lo {h h' : xHp} {f N u l v : Nat} (k : FracAt h f N u l) (o : Off (f + 3) 2 h h') (b : BigAt h' (f + 3) N v) : FracAt h' f N u v := ⟨(o f (by omega)).trans k.1, k.2.1.of o (by omega), b⟩
theorem cmpN_neg {v w : Nat} : (¬ 0 ≤ cmpN v w) ↔ v < w := by
  unfold cmpN
  by_cases q : v < w
  · rw [if_pos q]; exact ⟨fun _ => q, fun _ => by decide⟩
  · rw [if_neg q]
    by_cases r : v = w
    · rw [if_pos r]; exact ⟨fun z => absurd (by decide) z, fun z => absurd z q⟩
    · rw [if_neg r]; exact ⟨fun z => absurd (by decide) z, fun z => absurd z q⟩
theorem pw_mono_e {E e : Nat → Nat} (h : ∀ j, E j ≤ e j) : ∀ n, pw E n ≤ pw e n
  | 0 => Nat.le_refl _
  | n + 1 => Nat.mul_le_mul (pw_mono_e h n) (Nat.pow_le_pow_right (by have := xpr_b n; omega) (h n))
section FRAC
variable {g : xG} {post : xPost} {h : xHp} {nx : Nat}
theorem c_FracInit {N : Nat} (f : Nat) (hnx : f + 1 = nx) (hN : 1 ≤ N ∧ N ≤ 112) (h0 : h f = some (xo 3 [.null, .null])) (hp : ∀ h', FracAt h' f N 0 0 → Off f 5 h h' → post none h' (f + 5)) : Ct g M_X2_init [.ref f, .int (nI N)] h nx post := by
  subst hnx
  refine Ct.of (by decide +kernel) (Nat.le_of_ble_eq_true rfl) (v_X2_init_0 (c_BigInit _ rfl hN (xup_s _ _ _) (fun h1 hB1 hO1 => ⟨rfl, (hO1 f (by omega)).trans ((xup_n (by omega)).trans h0), c_BigInit _ rfl hN (xup_s _ _ _) (fun h2 hB2 hO2 => ⟨rfl, _, (hO2 f (by omega)).trans ((xup_n (by omega)).trans (xup_s _ _ _)), ?_⟩)⟩)))
  refine hp _ ⟨xup_s _ _ _, ?_, hB2.off (xup_n (by omega)) (xup_n (by omega))⟩ ?_
  · exact ((hB1.off ((xup_n (by omega)).trans (xup_n (by omega))) ((xup_n (by omega)).trans (xup_n (by omega)))).of hO2 (by omega)).off (xup_n (by omega)) (xup_n (by omega))
  · exact ((((Off.rf.up (by omega) (by omega)).tr (hO1.mono (by omega) (by omega))).up (by omega) (by omega)).up (by omega) (by omega) |>.tr (hO2.mono (by omega) (by omega))).up (by omega) (by omega)
theorem c_upper {f N u l : Nat} (hF : FracAt h f N u l) (hp : post (some (.ref (f + 1))) h nx) : Ct g M_X2_upper [.ref f] h nx post :=
  Ct.of (by decide +kernel) (Nat.le_of_ble_eq_true rfl) (v_X2_upper_0 ⟨_, _, hF.1, hp⟩)
theorem c_fcopy {f f2 N N2 u l u0 l0 : Nat} (hF : FracAt h f N u0 l0) (hF2 : FracAt h f2 N2 u l) (hd : f + 5 ≤ f2 ∨ f2 + 5 ≤ f) (hu : u < 1000000000 ^ N) (hl : l < 1000000000 ^ N) (hp : ∀ h', FracAt h' f N u l → Off f 5 h h' → post none h' nx) : Ct g M_X2_copy [.ref f, .ref f2] h nx post := by
  obtain ⟨w, hw⟩ := hF.2.1.obj
  refine Ct.of (by decide +kernel) (Nat.le_of_ble_eq_true rfl) (v_X2_copy_0 ⟨_, _, hF.1, _, _, hF2.1, _, _, hw, c_copy hF.2.1 hF2.2.1 (by omega) hu (fun h1 hB1 hO1 => ?_)⟩)
  have hF1 := hF.up hO1 hB1
  have hF3 := hF2.of hO1 (by omega)
  obtain ⟨w2, hw2⟩ := hF1.2.2.obj
  refine ⟨rfl, _, _, hF1.1, _, _, hF3.1, _, _, hw2, c_copy hF1.2.2 hF3.2.2 (by omega) hl (fun h2 hB2 hO2 => ⟨rfl, hp h2 (hF1.lo hO2 hB2) ((hO1.mono (by omega) (by omega)).tr (hO2.mono (by omega) (by omega)))⟩)⟩
theorem c_compareParts {f N u l : Nat} (hF : FracAt h f N u l) (hp : post (some (.int (cmpN u l))) h nx) : Ct g M_X2_compareParts [.ref f] h nx post := by
  obtain ⟨w, hw⟩ := hF.2.1.obj
  exact Ct.of (by decide +kernel) (Nat.le_of_ble_eq_true rfl) (v_X2_compareParts_0 ⟨_, _, hF.1, _, _, hw, c_compare hF.2.1 hF.2.2 ⟨_, rfl, hp⟩⟩)
theorem c_isBelow {f N u l b Nb v : Nat} (hF : FracAt h f N u l) (hB : BigAt h b Nb v) (hp1 : u < v ∧ l < v → post (some (.int (nI 1))) h nx) (hp0 : ¬ (u < v ∧ l < v) → post (some (.int (nI 0))) h nx) : Ct g M_X2_isBelow [.ref f, .ref b] h nx post := by
  obtain ⟨w, hw⟩ := hF.2.1.obj
  obtain ⟨w2, hw2⟩ := hF.2.2.obj
  refine Ct.of (by decide +kernel) (Nat.le_of_ble_eq_true rfl) (v_X2_isBelow_0 ⟨_, _, hF.1, _, _, hw, c_compare hF.2.1 hB ⟨_, rfl, fun q => hp0 (fun z => cmpN_neg.mpr z.1 q), fun q => ⟨_, _, hF.1, _, _, hw2, c_compare hF.2.2 hB ⟨_, rfl, fun q2 => hp0 (fun z => cmpN_neg.mpr z.2 q2), fun q2 => hp1 ⟨cmpN_neg.mp q, cmpN_neg.mp q2⟩⟩⟩⟩⟩)
theorem c_multiplyParts {f N u l a b : Nat} (hF : FracAt h f N u l) (ha : a < 1000000000) (hb : b < 1000000000) (hu : u * a < 1000000000 ^ N) (hl : l * b < 1000000000 ^ N) (hp : ∀ h', FracAt h' f N (u * a) (l * b) → Off f 5 h h' → post none h' nx) : Ct g M_X2_multiplyParts [.ref f, .int (nI a), .int (nI b)] h nx post := by
  obtain ⟨w, hw⟩ := hF.2.1.obj
  refine Ct.of (by decide +kernel) (Nat.le_of_ble_eq_true rfl) (v_X2_multiplyParts_0 ⟨_, _, hF.1, _, _, hw, c_multiply hF.2.1 ha hu (fun h1 hB1 hO1 => ?_)⟩)
  have hF1 := hF.up hO1 hB1
  obtain ⟨w2, hw2⟩ := hF1.2.2.obj
  refine ⟨rfl, _, _, hF1.1, _, _, hw2, c_multiply hF1.2.2 hb hl (fun h2 hB2 hO2 => ⟨rfl, hp h2 (hF1.lo hO2 hB2) ((hO1.mono (by omega) (by omega)).tr (hO2.mono (by omega) (by omega)))⟩)⟩
theorem l_tail {f r n W s0 l0 : Nat} {p e : Nat → Nat} (h00 : xHp) (hR : RowAt h00 r n p W e) (hd : f + 5 ≤ r ∨ r + 5 + 2 * n ≤ f) (hbd : sm p n < 1000000000 ^ 112) (hp : ∀ h' V, FracAt h' f 112 V W → V + sm p s0 = sm p n → Off f 5 h00 h' → post none h' nx) : ∀ (d i V : Nat) (h : xHp), n - i = d → i ≤ n → V + sm p s0 = sm p i → FracAt h f 112 V l0 → Off f 5 h00 h → Blk g M_X2_setTail post 10 [(0, .ref f), (1, .ref r), (3, .int (nI i))] [] h nx 0 0 := by
  intro d
  induction d with
  | zero =>
    intro i V h hm hi hv hF hO
    have hR1 := hR.of hO (by omega)
    obtain ⟨k0, k1, k2, k4, k5, k6⟩ := id hR1
    have hin : i = n := by omega
    subst hin
    obtain ⟨w2, hw2⟩ := hF.2.2.obj
    exact v_X2_setTail_10 ⟨_, _, _, k1, c_states hR1 ⟨_, rfl, ⟨by omega, by omega⟩, fun _ => ⟨_, _, hF.1, _, _, _, k1, c_whole hR1 ⟨_, rfl, _, _, hw2, c_copy hF.2.2 k5 (by omega) k5.lt (fun h1 hB1 hO1 => ⟨rfl, hp h1 V (hF.lo hO1 hB1) hv (hO.tr (hO1.mono (by omega) (by omega)))⟩)⟩⟩, fun q => absurd q (by omega)⟩⟩
  | succ d ih =>
    intro i V h hm hi hv hF hO
    have hR1 := hR.of hO (by omega)
    obtain ⟨k0, k1, k2, k4, k5, k6⟩ := id hR1
    obtain ⟨w2, hw2⟩ := hF.2.1.obj
    have e1 : sm p (i + 1) = sm p i + p i := rfl
    have e2 : sm p (i + 1) ≤ sm p n := sm_mono (by omega)
    refine v_X2_setTail_10 ⟨_, _, _, k1, c_states hR1 ⟨_, rfl, ⟨by omega, by omega⟩, fun q => absurd q (by omega), fun _ => ⟨_, _, hF.1, _, _, _, k1, c_has hR1 (by omega) ⟨_, rfl, _, _, hw2, c_addProduct hF.2.1 (k4 i (by omega)) (by omega) (by decide) (by decide) (by rw [Nat.pow_zero, Nat.mul_one, Nat.mul_one]; omega) (fun h1 hB1 hO1 => ⟨rfl, ?_⟩)⟩⟩⟩⟩
    rw [Nat.pow_zero, Nat.mul_one, Nat.mul_one] at hB1
    exact ih (i + 1) (V + p i) h1 (by omega) (by omega) (by omega) (hF.up hO1 hB1) (hO.tr (hO1.mono (by omega) (by omega)))
theorem c_setTail {f r n W u0 l0 s : Nat} {p e : Nat → Nat} (hF : FracAt h f 112 u0 l0) (hR : RowAt h r n p W e) (hs : s ≤ n) (hd : f + 5 ≤ r ∨ r + 5 + 2 * n ≤ f) (hbd : sm p n < 1000000000 ^ 112) (hp : ∀ h' V, FracAt h' f 112 V W → V + sm p s = sm p n → Off f 5 h h' → post none h' nx) : Ct g M_X2_setTail [.ref f, .ref r, .int (nI s)] h nx post := by
  obtain ⟨w, hw⟩ := hF.2.1.obj
  refine Ct.of (by decide +kernel) (Nat.le_of_ble_eq_true rfl) (v_X2_setTail_0 ⟨_, _, hF.1, _, _, hw, c_set hF.2.1 (by decide +kernel) (by decide) (fun h1 hB1 hO1 => ⟨rfl, ?_⟩)⟩)
  have hO2 : Off f 5 h h1 := hO1.mono (by omega) (by omega)
  exact l_tail h1 (hR.of hO2 (by omega)) hd hbd (fun h' V hF' hV hO' => hp h' V hF' hV (hO2.tr hO')) (n - s) s 0 h1 rfl hs (Nat.zero_add _) (hF.up hO1 hB1) Off.rf
/-- least terms -/
abbrev lowOk (v W u l : Nat) : Prop := u * W = v * l ∧ Nat.Coprime u l ∧ 0 < l ∧ l ≤ W
theorem c_setLowest {f r n b Nb v u0 l0 : Nat} {p e : Nat → Nat} (hF : FracAt h f 112 u0 l0) (hB : BigAt h b Nb v) (hR : RowAt h r n p (pw e 168) e) (hd : f + 5 ≤ r ∨ r + 5 + 2 * n ≤ f) (hdb : f + 3 ≤ b ∨ b + 2 ≤ f + 1) (hv : v < 1000000000 ^ 112) (hp : ∀ h' u l, FracAt h' f 112 u l → lowOk v (pw e 168) u l → Off f 5 h h' → post none h' nx) : Ct g M_X2_setLowest [.ref f, .ref b, .ref r] h nx post := by
  obtain ⟨w, hw⟩ := hF.2.1.obj
  refine Ct.of (by decide +kernel) (Nat.le_of_ble_eq_true rfl) (v_X2_setLowest_0 ⟨_, _, hF.1, _, _, hw, c_copy hF.2.1 hB (by omega) hv (fun h1 hB1 hO1 => ?_)⟩)
  have hF1 := hF.up hO1 hB1
  have hO1' : Off f 5 h h1 := hO1.mono (by omega) (by omega)
  obtain ⟨w1, hw1⟩ := hF1.2.1.obj
  obtain ⟨w2, hw2⟩ := hF1.2.2.obj
  refine ⟨rfl, _, _, hF1.1, _, _, hw1, ?_⟩
  have hpos := pw_pos (e := e) 168
  by_cases hz : v = 0
  · refine c_isZ1 hF1.2.1 hz ⟨1, rfl, by decide, fun q => absurd q (by decide), fun _ => ⟨_, _, hF1.1, _, _, hw2, c_set hF1.2.2 (by decide +kernel) (by decide) (fun h2 hB2 hO2 => ⟨rfl, hp h2 v 1 (hF1.lo hO2 hB2) ⟨by rw [hz, Nat.zero_mul, Nat.zero_mul], Nat.coprime_one_right _, by decide, hpos⟩ (hO1'.tr (hO2.mono (by omega) (by omega)))⟩)⟩⟩
  · have hR1 := hR.of hO1' (by omega)
    obtain ⟨k0, k1, k2, k4, k5, k6⟩ := id hR1
    have hW2 : pw e 168 < 2 ^ 4000 := Nat.lt_of_lt_of_le k5.lt (by decide +kernel)
    refine c_isZ0 hF1.2.1 hz ⟨0, rfl, by decide, fun _ => ⟨_, _, hF1.1, _, _, _, k1, c_whole hR1 ⟨_, rfl, _, _, hw2, c_copy hF1.2.2 k5 (by omega) k5.lt (fun h2 hB2 hO2 => ⟨rfl, ?_⟩)⟩⟩, fun q => absurd rfl q⟩
    have main : ∀ (d k u : Nat) (E : Nat → Nat) (h' : xHp), 168 - k = d → k ≤ 168 → FracAt h' f 112 u (pw E 168) → Off f 5 h h' → u * pw e 168 = v * pw E 168 → (∀ j, k ≤ j → E j = e j) → (∀ j, j < k → 0 < E j → ¬ u % xpr j = 0) → (∀ j, E j ≤ e j) → Blk g M_X2_setLowest post 40 [(0, .ref f), (2, .ref r), (3, .int (nI k))] [] h' nx 0 0 := by
      intro d
      induction d with
      | zero =>
        intro k u E h' hm hk hF' hO hu hE hc hle
        have hk' : k = 168 := by omega
        subst hk'
        refine v_X2_setLowest_40 ⟨⟨by decide, by decide⟩, fun _ => hp h' u _ hF' ⟨hu, pw_cop (Nat.le_refl _) hc, pw_pos _, ?_⟩ hO, fun q => absurd q (by decide)⟩
        exact pw_mono_e hle 168
      | succ d ih =>
        intro k u E h' hm hk hF' hO hu hE hc hle
        have hR2 := hR.of hO (by omega)
        have hx := xpr_b k
        refine v_X2_setLowest_40 ⟨⟨by omega, by decide⟩, fun q => absurd q (by omega), fun _ => ⟨_, _, _, hR2.2.1, c_power hR2 (by omega) ⟨_, rfl, ?_⟩⟩⟩
        rw [← hE k (Nat.le_refl _)]
        have inner : ∀ (x u : Nat) (E : Nat → Nat) (h' : xHp), E k = x → FracAt h' f 112 u (pw E 168) → Off f 5 h h' → u * pw e 168 = v * pw E 168 → (∀ j, k + 1 ≤ j → E j = e j) → (∀ j, j < k → 0 < E j → ¬ u % xpr j = 0) → (∀ j, E j ≤ e j) → Blk g M_X2_setLowest post 55 [(0, .ref f), (2, .ref r), (3, .int (nI k)), (4, .int (nI x))] [] h' nx 0 0 := by
          intro x
          induction x with
          | zero =>
            intro u E h' hx0 hF' hO hu hE hc hle
            refine v_X2_setLowest_55 ⟨by decide, fun _ => ih (k + 1) u E h' (by omega) (by omega) hF' hO hu hE (fun j hj h0 => ?_) hle, fun q => absurd q (by omega)⟩
            by_cases y : j = k
            · subst y; omega
            · exact hc j (by omega) h0
          | succ x ihx =>
            intro u E h' hx0 hF' hO hu hE hc hle
            obtain ⟨w3, hw3⟩ := hF'.2.1.obj
            have hek : e k < 4000 := pw_exp (by omega) hW2
            have hEk := hle k
            have hml := Nat.mod_lt u (show 0 < xpr k by omega)
            refine v_X2_setLowest_55 ⟨by omega, fun q => absurd q (by omega), fun _ => ⟨_, _, hF'.1, by omega, _, _, hw3, c_remainder hF'.2.1 ⟨by omega, by omega⟩ ⟨_, rfl, by omega, fun q => ?_, fun q => ⟨_, _, hF'.1, by omega, _, _, hw3, c_divide hF'.2.1 ⟨by omega, by omega⟩ (fun h3 hB3 hO3 => ?_)⟩⟩⟩⟩
            · refine ih (k + 1) u E h' (by omega) (by omega) hF' hO hu hE (fun j hj h0 => ?_) hle
              by_cases y : j = k
              · subst y; exact q
              · exact hc j (by omega) h0
            · have hF3 := hF'.up hO3 hB3
              obtain ⟨w4, hw4⟩ := hF3.2.2.obj
              refine ⟨rfl, _, _, hF3.1, by omega, _, _, hw4, c_divide hF3.2.2 ⟨by omega, by omega⟩ (fun h4 hB4 hO4 => ⟨rfl, by omega, ?_⟩)⟩
              rw [Nat.add_sub_cancel]
              have hdn := pw_dn1 (e := E) (k := k) (n := 168) (by omega) (by omega)
              have hdv : pw E 168 / xpr k = pw (va_up E k (E k - 1)) 168 := by
                rw [← hdn]; exact Nat.mul_div_cancel _ (by omega)
              rw [hdv] at hB4
              have hud : u = u / xpr k * xpr k := (Nat.div_mul_cancel (Nat.dvd_of_mod_eq_zero q)).symm
              refine ihx (u / xpr k) (va_up E k (E k - 1)) h4 (by rw [up_s]; omega) (hF3.lo hO4 hB4) (hO.tr ((hO3.mono (by omega) (by omega)).tr (hO4.mono (by omega) (by omega)))) ?_ (fun j hj => ?_) (fun j hj h0 => ?_) (fun j => ?_)
              · have h5 : u / xpr k * pw e 168 * xpr k = v * pw (va_up E k (E k - 1)) 168 * xpr k := by
                  have h6 : u / xpr k * xpr k * pw e 168 = v * (pw (va_up E k (E k - 1)) 168 * xpr k) := by
                    rw [← hud, hdn]; exact hu
                  grind
                exact Nat.eq_of_mul_eq_mul_right (by omega) h5
              · rw [up_n (by omega)]; exact hE j hj
              · rw [up_n (by omega)] at h0
                intro z
                refine hc j hj h0 ?_
                rw [hud]
                exact Nat.mod_eq_zero_of_dvd (Nat.dvd_trans (Nat.dvd_of_mod_eq_zero z) (Nat.dvd_mul_right _ _))
              · by_cases y : j = k
                · subst y; rw [up_s]; omega
                · rw [up_n y]; exact hle j
        exact inner (E k) u E h' rfl hF' hO hu (fun j hj => hE j (by omega)) hc hle
    exact main 168 0 v e h2 rfl (Nat.zero_le _) (hF1.lo hO2 hB2) (hO1'.tr (hO2.mono (by omega) (by omega))) rfl (fun j _ => rfl) (fun j hj => absurd hj (by omega)) (fun j => Nat.le_refl _)
end FRAC
