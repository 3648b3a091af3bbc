/-! the reference: made -/
def pI (c p : Nat) : Prop := c ≤ 168 ∧ (∀ k, k < c → xpr k < p) ∧ (c = 168 ∨ p ≤ xpr c)
theorem pI_yes {c p : Nat} (h1 : p < 1000) (h2 : 2 ≤ p) (hI : pI c p) (h : ∀ k, k < c → ¬ p % xpr k = 0) : pI (c + 1) (p + 1) ∧ xpr c = p ∧ c < 168 := by
  obtain ⟨i1, i2, i3⟩ := hI
  obtain ⟨k, hk, hk2⟩ := List.any_eq_true.mp (smooth_tab p (by omega) h2)
  have hk : k < 168 := List.mem_range.mp hk
  have hk2 : p % xpr k = 0 := by simpa using hk2
  have hle : xpr k ≤ p := Nat.le_of_dvd (by omega) (Nat.dvd_of_mod_eq_zero hk2)
  have hkc : c ≤ k := by
    rcases Nat.lt_or_ge k c with z | z
    · exact absurd hk2 (h k z)
    · exact z
  have hc : xpr c ≤ xpr k := by
    rcases Nat.lt_or_ge c k with z | z
    · exact Nat.le_of_lt (xpr_inc hk z)
    · have : c = k := by omega
      rw [this]; exact Nat.le_refl _
  have e : xpr c = p := by
    rcases i3 with z | z
    · omega
    · omega
  refine ⟨⟨by omega, fun j hj => ?_, ?_⟩, e, by omega⟩
  · by_cases z : j = c
    · subst z; omega
    · have := i2 j (by omega); omega
  · rcases Nat.lt_or_ge (c + 1) 168 with z | z
    · have := xpr_inc (j := c) z (by omega)
      omega
    · omega
theorem pI_no {c p k : Nat} (h2 : 2 ≤ p) (hI : pI c p) (hk : k < c) (h : p % xpr k = 0) : pI c (p + 1) := by
  obtain ⟨i1, i2, i3⟩ := hI
  refine ⟨i1, fun j hj => by have := i2 j hj; omega, ?_⟩
  rcases i3 with z | z
  · exact Or.inl z
  · rcases Nat.lt_or_ge c 168 with y | y
    · right
      rcases Nat.lt_or_ge p (xpr c) with w | w
      · exact w
      · have e : xpr c = p := by omega
        have hd : xpr k ∣ xpr c := by rw [e]; exact Nat.dvd_of_mod_eq_zero h
        have hb := xpr_b k
        have hl := i2 k hk
        rcases xpr_dvd y hd with q | q <;> omega
    · left; omega
section M23
variable {g : xG} {post : xPost} {h : xHp} {nx : Nat}
theorem c_ModInit {x : Int32} (m : Nat) (hnx : m + 1 = nx) (h0 : h m = some (xo 11 (fsI m 0))) (hp : ∀ h' s', MAt h' m s' → (∀ Bs, (∀ i, i < 6 → Bs i = 1) → Rel s' (clampN x) mk0 (fun _ => 0) (fun _ => 0) 0 rlS 0 0 A0 Bs tr0 tr0 (fun _ => 0)) → Off m 22 h h' → post none h' (m + 22)) : Ct g M_X10_init [.ref m, .int x] h nx post := by
  have hcl : 2 ≤ clampN x ∧ clampN x ≤ 6 := by
    unfold clampN
    split
    · decide
    · rename_i q1
      split
      · decide
      · rename_i q2
        rw [Int32.not_lt] at q1 q2
        have h2 : ¬ x < 0 := Int32.not_lt.mpr (Int32.le_trans (by decide) q1)
        obtain ⟨j, hj, rfl⟩ := nI_of h2
        rw [nI_clamp hj]
        rw [nI_leI (by decide) hj] at q1
        rw [nI_leI hj (by decide)] at q2
        omega
  have body : BlkI g M_X10_init m (fun r s' => r = none ∧ ∀ Bs, (∀ i, i < 6 → Bs i = 1) → Rel s' (clampN x) mk0 (fun _ => 0) (fun _ => 0) 0 rlS 0 0 A0 Bs tr0 tr0 (fun _ => 0)) 179 [(0, .ref m), (1, .int x)] [] s00 := by
    -- two to the 600
    have l4 : ∀ (f : Nat → Int32) (q rl : Nat → Int32) (pr : Nat → Nat), (∀ i, i < 480 → f i = -1) → (∀ k, k < 168 → pr k = xpr k) → rl = va_up (fun _ => nI 0) 4 (nI 2) → ∀ (d k : Nat) (S : St), k + d = 600 → Rw S 83 (2 ^ k) (fun _ => 0) → BlkI g M_X10_init m (fun r s' => r = none ∧ ∀ Bs, (∀ i, i < 6 → Bs i = 1) → Rel s' (clampN x) mk0 (fun _ => 0) (fun _ => 0) 0 rlS 0 0 A0 Bs tr0 tr0 (fun _ => 0)) 321 [(0, .ref m), (3, .int (nI k))] [] (mR (MV.u_rl (MV.u_ru (MV.u_pr (MV.u_mk (MV.u_n s00 (clampN x)) f) pr) 1) rl) S) := by
      intro f q rl pr hf hpr hrl d
      subst hrl
      induction d with
      | zero =>
        intro k S hk hS
        have : k = 600 := by omega
        subst this
        refine v_X10_init_321 ⟨⟨by decide, by decide⟩, fun _ => ⟨rfl, fun Bs hBs => ?_⟩, fun z => absurd z (by decide)⟩
        refine ⟨rfl, ⟨hcl, fun i hi => ?_, fun i v hi hv => ?_, ?_⟩, fun _ _ => rfl, ⟨rfl, fun i hi => absurd hi (by omega)⟩, rfl, ⟨rfl, fun _ i hi => ⟨rfl, rfl, rfl, hBs i (by omega)⟩, fun z => absurd rfl z⟩, ⟨fun _ _ => rfl, fun y _ i hi => absurd hi (by show ¬ i < 0; omega)⟩, ⟨fun _ _ => rfl, fun y _ i hi => absurd hi (by show ¬ i < 0; omega)⟩, fun i _ => by show lN 0 = Int64.ofInt 0; decide, hpr, ⟨_, hS⟩, fun _ _ => by show 0 ≤ 1; decide, by show 0 ≤ 1; decide, fun z => absurd z (by show ¬ (0 : Nat) = 1; decide)⟩
        · show f i = oI (mk0 i)
          unfold mk0
          rw [if_pos hi]
          exact hf i hi
        · unfold mk0 at hv
          rw [if_pos hi] at hv
          cases hv
        · refine ⟨rfl, by decide, fun k hk => ?_⟩
          have : k = 0 := by
            replace hk : k < 1 := hk
            omega
          subst this
          exact ⟨rfl, by decide, by decide, by decide, fun z => absurd z (by decide), fun z => absurd rfl z, Or.inr (Or.inl ⟨rfl, show va_up (fun _ => nI 0) 4 (nI 2) 4 = nI 2 from up_s⟩)⟩
      | succ d ih =>
        intro k S hk hS
        have hb : 2 ^ k * 2 < 1000000000 ^ 160 := by
          have h1 : 2 ^ (k + 1) ≤ 2 ^ 600 := Nat.pow_le_pow_right (by decide) (by omega)
          have h2 : (2 : Nat) ^ 600 < 1000000000 ^ 160 := by decide +kernel
          rw [Nat.pow_succ] at h1
          omega
        refine v_X10_init_321 ⟨⟨by omega, by decide⟩, fun z => absurd z (by omega), fun _ => m_times (s := mR (MV.u_rl (MV.u_ru (MV.u_pr (MV.u_mk (MV.u_n s00 (clampN x)) f) pr) 1) (va_up (fun _ => nI 0) 4 (nI 2))) S) (by decide) hS ⟨by decide, by decide⟩ hb (fun S' k1 o1 => ⟨rfl, ih (k + 1) S' (by omega) ?_⟩)⟩
        rw [Nat.pow_succ]
        exact k1
    -- the primes
    have l3 : ∀ f : Nat → Int32, (∀ i, i < 480 → f i = -1) → ∀ (d p c : Nat) (pr : Nat → Nat), p + d = 1000 → 2 ≤ p → pI c p → (∀ k, k < c → pr k = xpr k) → BlkI g M_X10_init m (fun r s' => r = none ∧ ∀ Bs, (∀ i, i < 6 → Bs i = 1) → Rel s' (clampN x) mk0 (fun _ => 0) (fun _ => 0) 0 rlS 0 0 A0 Bs tr0 tr0 (fun _ => 0)) 230 [(0, .ref m), (2, .int (nI c)), (3, .int (nI p))] [] (MV.u_pr (MV.u_mk (MV.u_n s00 (clampN x)) f) pr) := by
      intro f hf d
      induction d with
      | zero =>
        intro p c pr hd h2 hI hpr
        have : p = 1000 := by omega
        subst this
        have hc : c = 168 := by
          have := xpr_b c
          rcases hI.2.2 with z | z
          · exact z
          · omega
        rw [hc] at hpr
        refine v_X10_init_230 ⟨⟨by decide, by decide⟩, fun _ => ⟨by decide, m_set (s := (MV.u_rl (MV.u_ru (MV.u_pr (MV.u_mk (MV.u_n s00 (clampN x)) f) pr) 1) (va_up (fun _ => nI 0) 4 (nI 2)))) (by decide) (by decide) (fun S k1 o1 => ⟨rfl, l4 f f _ pr hf hpr rfl 600 0 S (by decide) k1⟩)⟩, fun z => absurd z (by decide)⟩
      | succ d ih =>
        intro p c pr hd h2 hI hpr
        have hc := hI.1
        have inner : ∀ (e k b : Nat), k + e = c → ((b = 1 ∧ ∀ j, j < k → ¬ p % xpr j = 0) ∨ (b = 0 ∧ ∃ j, j < c ∧ p % xpr j = 0)) → BlkI g M_X10_init m (fun r s' => r = none ∧ ∀ Bs, (∀ i, i < 6 → Bs i = 1) → Rel s' (clampN x) mk0 (fun _ => 0) (fun _ => 0) 0 rlS 0 0 A0 Bs tr0 tr0 (fun _ => 0)) 243 [(0, .ref m), (2, .int (nI c)), (3, .int (nI p)), (4, .int (nI b)), (5, .int (nI k))] [] (MV.u_pr (MV.u_mk (MV.u_n s00 (clampN x)) f) pr) := by
          intro e
          induction e with
          | zero =>
            intro k b he hb
            have : k = c := by omega
            subst this
            refine v_X10_init_243 ⟨⟨by omega, by omega⟩, fun _ => ⟨by omega, fun z => ?_, fun z => ?_⟩, fun z => absurd z (by omega)⟩
            · rcases hb with hb | ⟨-, j, hj, hjz⟩
              · omega
              · exact v_X10_init_294 (ih (p + 1) k pr (by omega) (by omega) (pI_no h2 hI hj hjz) hpr)
            · rcases hb with ⟨-, hb⟩ | hb
              · obtain ⟨e1, e2, e3⟩ := pI_yes (by omega) h2 hI hb
                refine ⟨e3, v_X10_init_294 ?_⟩
                refine ih (p + 1) (k + 1) (va_up pr k p) (by omega) (by omega) e1 (fun j hj => ?_)
                by_cases y : j = k
                · subst y; rw [up_s]; exact e2.symm
                · rw [up_n y]; exact hpr j (by omega)
              · omega
          | succ e ihe =>
            intro k b he hb
            have hq : MV.pr (MV.u_pr (MV.u_mk (MV.u_n s00 (clampN x)) f) pr) k = xpr k := hpr k (by omega)
            have hx := xpr_b k
            have hml := Nat.mod_lt p (show xpr k > 0 by omega)
            refine v_X10_init_243 ⟨⟨by omega, by omega⟩, fun z => absurd z (by omega), fun _ => ⟨by omega, fun z => ?_, fun z => ⟨by omega, ?_⟩⟩⟩
            · refine v_X10_init_273 (ihe (k + 1) 0 (by omega) ?_)
              rcases hb with hb | hb
              · omega
              · exact Or.inr ⟨rfl, hb.2⟩
            · rw [hq]
              have hb1 : ∀ j, j < k → ¬ p % xpr j = 0 := by
                rcases hb with hb | hb
                · exact hb.2
                · omega
              refine ⟨⟨by omega, by omega, by omega⟩, by omega, fun y => v_X10_init_273 (ihe (k + 1) 0 (by omega) (Or.inr ⟨rfl, k, by omega, y⟩)), fun y => v_X10_init_273 (ihe (k + 1) 1 (by omega) (Or.inl ⟨rfl, fun j hj => ?_⟩))⟩
              by_cases w : j = k
              · subst w; exact y
              · exact hb1 j (by omega)
        exact v_X10_init_230 ⟨⟨by omega, by decide⟩, fun z => absurd z (by omega), fun _ => inner c 0 1 (by omega) (Or.inl ⟨rfl, fun j hj => absurd hj (by omega)⟩)⟩
    have l2 : ∀ (d i : Nat) (f : Nat → Int32), i + d = 480 → (∀ j, j < i → f j = -1) → BlkI g M_X10_init m (fun r s' => r = none ∧ ∀ Bs, (∀ i, i < 6 → Bs i = 1) → Rel s' (clampN x) mk0 (fun _ => 0) (fun _ => 0) 0 rlS 0 0 A0 Bs tr0 tr0 (fun _ => 0)) 206 [(0, .ref m), (2, .int (nI i))] [] (MV.u_mk (MV.u_n s00 (clampN x)) f) := by
      intro d
      induction d with
      | zero =>
        intro i f hi hf
        have : i = 480 := by omega
        subst this
        refine v_X10_init_206 ⟨⟨by decide, by decide⟩, fun _ => ?_, fun z => absurd z (by decide)⟩
        exact l3 f hf 998 2 0 (fun _ => 0) (by decide) (by decide) ⟨by decide, fun k hk => absurd hk (by omega), Or.inr (xpr_b 0).1⟩ (fun k hk => absurd hk (by omega))
      | succ d ih =>
        intro i f hi hf
        refine v_X10_init_206 ⟨⟨by omega, by decide⟩, fun z => absurd z (by omega), fun _ => ⟨by omega, ih (i + 1) (va_up f i (-1)) (by omega) (fun j hj => ?_)⟩⟩
        by_cases z : j = i
        · subst z; exact up_s
        · rw [up_n z]; exact hf j (by omega)
    have l1 : BlkI g M_X10_init m (fun r s' => r = none ∧ ∀ Bs, (∀ i, i < 6 → Bs i = 1) → Rel s' (clampN x) mk0 (fun _ => 0) (fun _ => 0) 0 rlS 0 0 A0 Bs tr0 tr0 (fun _ => 0)) 204 [(0, .ref m)] [] (MV.u_n s00 (clampN x)) := v_X10_init_204 (l2 480 0 (fun _ => nI 0) (by decide) (fun j hj => absurd hj (by omega)))
    refine v_X10_init_179 ⟨fun q1 => ⟨fun q2 => ⟨clampN x, ?_, l1⟩, fun q2 => ?_⟩, fun q1 => ?_⟩
    · unfold clampN
      rw [if_neg (Int32.not_lt.mpr q1), if_neg (Int32.not_lt.mpr q2)]
      have h2 : ¬ x < 0 := Int32.not_lt.mpr (Int32.le_trans (by decide) q1)
      obtain ⟨j, hj, rfl⟩ := nI_of h2
      rw [nI_clamp hj]
    · have e : clampN x = 6 := by
        unfold clampN
        rw [if_neg (Int32.not_lt.mpr q1), if_pos (Int32.not_le.mp q2)]
      rw [e] at l1
      rw [e]
      exact l1
    · have e : clampN x = 2 := by
        unfold clampN
        rw [if_pos (Int32.not_le.mp q1)]
      rw [e] at l1
      rw [e]
      exact l1
  refine Ct.imp (Ct.of (by decide +kernel) (Nat.le_of_ble_eq_true rfl) (v_X10_init_0 hnx h0 (fun h1 H1 O1 => body h h1 (m + 22) O1 H1))) (fun r h' nx' q => ?_)
  obtain ⟨q1, q2, s', q3, q4, q5⟩ := q
  subst q1
  subst q4
  exact hp h' s' q3 q5 q2
end M23
