/-! StateShares: signs collected; made -/
def clampN (x : Int32) : Nat := if x < nI 2 then 2 else if nI 6 < x then 6 else x.toNatClampNeg
theorem clampN_ok (x : Int32) : (2 ≤ clampN x ∧ clampN x ≤ 6) ∧ (if (nI 2) < (if x < (nI 6) then x else (nI 6)) then (if x < (nI 6) then x else (nI 6)) else (nI 2)) = nI (clampN x) := by
  by_cases q : x < 0
  · have h2 : x < nI 2 := Int32.lt_trans q (by decide)
    have h6 : x < nI 6 := Int32.lt_trans q (by decide)
    have e : clampN x = 2 := if_pos h2
    rw [e, if_pos h6, if_neg (Int32.not_lt.mpr (Int32.le_of_lt h2))]
    exact ⟨⟨by decide, by decide⟩, rfl⟩
  · obtain ⟨j, hj, rfl⟩ := nI_of q
    unfold clampN
    rw [nI_clamp hj]
    by_cases a : j < 2
    · rw [if_pos (nI_lt a (by decide)), if_pos (nI_lt (show j < 6 by omega) (by decide)), if_neg (nI_nlt (by omega) (by decide))]
      exact ⟨⟨by decide, by decide⟩, rfl⟩
    · rw [if_neg (nI_nlt (by omega) hj)]
      by_cases b : 6 < j
      · rw [if_pos (nI_lt b hj), if_neg (nI_nlt (show 6 ≤ j by omega) hj), if_pos (by decide)]
        exact ⟨⟨by decide, by decide⟩, rfl⟩
      · rw [if_neg (nI_nlt (show j ≤ 6 by omega) (by decide))]
        by_cases c : j < 6
        · rw [if_pos (nI_lt c (by decide))]
          by_cases d : j = 2
          · subst d; exact ⟨⟨by decide, by decide⟩, rfl⟩
          · rw [if_pos (nI_lt (show 2 < j by omega) hj)]
            exact ⟨⟨by omega, by omega⟩, rfl⟩
        · have : j = 6 := by omega
          subst this
          exact ⟨⟨by decide, by decide⟩, by decide⟩
def rl0 : Rl := (fun _ => 0, fun _ => 0, fun _ => 0, fun _ => 0, fun _ => 0, 0)
def rlS : Rl := rlAdd rl0 0 0 61 0 1000
def tr0 : Tr := (fun _ => 0, fun _ => 0, fun _ => 0, fun _ => 0, fun _ => 0)
section SS8
variable {g : xG} {post : xPost} {h : xHp} {nx : Nat}
theorem RuAt.setO {h : xHp} {q n len w nxt hd dr len' w' nxt' : Nat} {tx ws we : Nat → Nat} {R D : Rl} (k : RuAt h q n tx len ws we w nxt hd dr R D) : RuAt (xup h q (xo 8 [.int (nI n), .ref (q + 1), .int (nI len'), .ref (q + 2), .ref (q + 3), .int (nI w'), .int (nI nxt'), .ref hd, .ref dr])) q n tx len' ws we w' nxt' hd dr R D := by
  obtain ⟨k0, k1, k2, k3, k4, k5, k6⟩ := k
  exact ⟨xup_s _ _ _, (xup_n (by omega)).trans k1, (xup_n (by omega)).trans k2, (xup_n (by omega)).trans k3, k4, k5.ofq (fun a x y => xup_n (by omega)), k6.ofq (fun a x y => xup_n (by omega))⟩
theorem RuAt.setT {h : xHp} {q n len w nxt hd dr : Nat} {tx tx' ws we : Nat → Nat} {R D : Rl} (k : RuAt h q n tx len ws we w nxt hd dr R D) : RuAt (xup h (q + 1) (xnc 120 tx')) q n tx' len ws we w nxt hd dr R D := by
  obtain ⟨k0, k1, k2, k3, k4, k5, k6⟩ := k
  exact ⟨(xup_n (by omega)).trans k0, xup_s _ _ _, (xup_n (by omega)).trans k2, (xup_n (by omega)).trans k3, k4, k5.ofq (fun a x y => xup_n (by omega)), k6.ofq (fun a x y => xup_n (by omega))⟩
theorem c_collect {q n len w nxt hd dr : Nat} {x : Int32} {tx ws we : Nat → Nat} {R D : Rl} (hU : RuAt h q n tx len ws we w nxt hd dr R D) (hl : len ≤ 120) (hp1 : ∀ u, 32 ≤ u → u ≤ 126 → x = nI u → len < 120 → ∀ h', RuAt h' q n (va_up tx len u) (len + 1) ws we w nxt hd dr R D → Off q 16 h h' → post (some (.int (nI 1))) h' nx) (hp2 : ∀ u, 32 ≤ u → u ≤ 126 → x = nI u → len = 120 → post (some (.int (nI 0))) h nx) (hp0 : (∀ u, 32 ≤ u → u ≤ 126 → ¬ x = nI u) → post (some (.int (nI 0))) h nx) : Ct g M_X7_collect [.ref q, .int x] h nx post := by
  refine Ct.of (by decide +kernel) (Nat.le_of_ble_eq_true rfl) (v_X7_collect_0 ⟨fun z => hp0 (fun u h1 h2 e => ?_), fun z => ⟨fun z2 => hp0 (fun u h1 h2 e => ?_), fun z2 => ?_⟩⟩)
  · rw [e] at z; exact nI_nlt h1 (by omega) z
  · rw [e] at z2; exact nI_nlt h2 (by decide) z2
  · have hx0 : ¬ x < 0 := fun y => z (Int32.lt_trans y (by decide))
    obtain ⟨u, hu, rfl⟩ := nI_of hx0
    have u1 : 32 ≤ u := by
      rcases Nat.lt_or_ge u 32 with y | y
      · exact absurd (nI_lt y (by decide)) z
      · exact y
    have u2 : u ≤ 126 := by
      rcases Nat.lt_or_ge 126 u with y | y
      · exact absurd (nI_lt y hu) z2
      · exact y
    refine ⟨_, _, _, _, _, _, _, _, _, hU.1, ⟨by omega, by decide⟩, fun q3 => ⟨_, _, hU.2.1, u, ?_, q3, by decide, by omega, hp1 u u1 u2 rfl q3 _ hU.setT.setO ((Off.rf.up (by omega) (by omega)).up (by omega) (by omega))⟩, fun q3 => hp2 u u1 u2 rfl (by omega)⟩
    rw [pk_char, pk_tn (by omega), Nat.mod_eq_of_lt (by omega)]
theorem c_unit {S n len lm ft : Nat} {mk : Nat → Option Nat} {kd tx A Bs : Nat → Nat} {R : Rl} {wk ev : Tr} {w : Nat → Int} {x : Int32} (hI : ssI n mk kd tx len R lm ft A Bs wk ev w) (hX : Ss h S n mk kd tx len R lm ft A Bs wk ev w) (hp1 : ∀ u, 32 ≤ u → u ≤ 126 → x = nI u → len < 120 → ∀ h', Ss h' S n mk kd (va_up tx len u) (len + 1) R lm ft A Bs wk ev w → Off S (491 + 24 * n) h h' → post (some (.int (nI 1))) h' nx) (hp2 : ∀ u, 32 ≤ u → u ≤ 126 → x = nI u → len = 120 → post (some (.int (nI 0))) h nx) (hp0 : (∀ u, 32 ≤ u → u ≤ 126 → ¬ x = nI u) → post (some (.int (nI 0))) h nx) : Ct g M_X9_unit [.ref S, .int x] h nx post := by
  obtain ⟨old, gr, C, T, G, P, B, kn, hG, hX⟩ := hX
  obtain ⟨ws, we, nw, nxt, hd, dr, D, so, ch, cu, wy, wg, p, W, e, ku, kl, vu, vl, ⟨x1, x2, x3, x4, x5, x6, x7⟩, ⟨y1, y2, y3, y4, y5, y6⟩⟩ := id hX
  obtain ⟨i1, i2, i3, i4, i5, i6, i7, i8, i9, i10, i11⟩ := id hI
  refine Ct.of (by decide +kernel) (Nat.le_of_ble_eq_true rfl) (v_X9_unit_0 ⟨_, _, _, _, _, _, _, _, x1, _, _, _, _, _, _, _, _, _, x2.1, c_collect x2 i4.1 (fun u u1 u2 e0 hl h1 hU1 hO1 => ⟨_, rfl, by decide, hp1 u u1 u2 e0 hl h1 ⟨old, gr, C, T, G, P, B, kn, hG, ?_⟩ (hO1.mono (by omega) (by omega))⟩) (fun u u1 u2 e0 hl => ⟨_, rfl, by decide, hp2 u u1 u2 e0 hl⟩) (fun e0 => ⟨_, rfl, by decide, hp0 e0⟩)⟩)
  have o1 : ∀ q, (q < S + 1 ∨ S + 17 ≤ q) → h1 q = h q := fun q a => hO1 q (by omega)
  exact ⟨ws, we, nw, nxt, hd, dr, D, so, ch, cu, wy, wg, p, W, e, ku, kl, vu, vl, ⟨(o1 S (by omega)).trans x1, hU1, x3.ofq (fun q a b => o1 q (by omega)), x4.ofq (fun q a b => o1 q (by omega)), x5.ofq (fun q a b => o1 q (by omega)), x6.ofq (fun q a b => o1 q (by omega)), x7.ofq (fun q a b => o1 q (by omega))⟩, ⟨y1, y2, y3, y4, y5, y6⟩⟩
theorem c_RuInit {n : Nat} (q : Nat) (hnx : q + 1 = nx) (h0 : h q = some (xo 8 [.int (nI 0), .null, .int (nI 0), .null, .null, .int (nI 0), .int (nI 0), .null, .null])) (hp : ∀ h', RuAt h' q n (fun _ => 0) 0 (fun _ => 0) (fun _ => 0) 0 0 (q + 4) (q + 10) rlS rl0 → Off q 16 h h' → post none h' (q + 16)) : Ct g M_X7_init [.ref q, .int (nI n)] h nx post := by
  subst hnx
  refine Ct.of (by decide +kernel) (Nat.le_of_ble_eq_true rfl) (v_X7_init_0 ⟨h0, by omega, by omega, by omega, c_RlInit _ rfl (xup_s _ _ _) (fun h1 hR1 hO1 => ?_)⟩)
  have n1 : q + 1 + 1 + 1 + 1 = q + 4 := by omega
  have n2 : q + 4 + 6 = q + 10 := by omega
  have c1 : h1 q = some (xo 8 [.int (nI n), .ref (q + 1), .int (nI 0), .ref (q + 1 + 1), .ref (q + 1 + 1 + 1), .int (nI 0), .int (nI 0), .null, .null]) := (hO1 q (by omega)).trans ((xup_n (by omega)).trans (xup_s _ _ _))
  refine ⟨rfl, _, _, _, _, c1, c_RlInit _ rfl (xup_s _ _ _) (fun h2 hR2 hO2 => ?_)⟩
  have c2 : h2 q = some (xo 8 [.int (nI n), .ref (q + 1), .int (nI 0), .ref (q + 1 + 1), .ref (q + 1 + 1 + 1), .int (nI 0), .int (nI 0), .ref (q + 4), .null]) := (hO2 q (by omega)).trans ((xup_n (by omega)).trans (xup_s _ _ _))
  have hR1' : RlAt h2 (q + 4) rl0 := hR1.ofq (fun a x y => (hO2 a (by omega)).trans ((xup_n (by omega)).trans (xup_n (by omega))))
  refine ⟨rfl, _, _, _, _, _, c2, _, _, _, _, _, _, hR1'.1, c_rlAdd (R := rl0) (hR1'.ofq (fun a x y => xup_n (by omega))) (by decide) (by decide) (fun h3 hR3 hO3 => ⟨rfl, ?_⟩)⟩
  have n3 : q + 1 + 1 + 1 + 1 + 6 + 6 = q + 16 := by omega
  rw [n3]
  refine hp h3 ⟨(hO3 q (by omega)).trans (xup_s _ _ _), ?_, ?_, ?_, Or.inl ⟨rfl, rfl⟩, hR3, ?_⟩ ?_
  · exact (hO3 _ (by omega)).trans ((xup_n (by omega)).trans ((hO2 _ (by omega)).trans ((xup_n (by omega)).trans ((xup_n (by omega)).trans ((hO1 _ (by omega)).trans ((xup_n (by omega)).trans ((xup_n (by omega)).trans ((xup_n (by omega)).trans ((xup_n (by omega)).trans ((xup_n (by omega)).trans ((xup_n (by omega)).trans (xup_s _ _ _))))))))))))
  · exact (hO3 _ (by omega)).trans ((xup_n (by omega)).trans ((hO2 _ (by omega)).trans ((xup_n (by omega)).trans ((xup_n (by omega)).trans ((hO1 _ (by omega)).trans ((xup_n (by omega)).trans ((xup_n (by omega)).trans ((xup_n (by omega)).trans ((xup_n (by omega)).trans (xup_s _ _ _))))))))))
  · exact (hO3 _ (by omega)).trans ((xup_n (by omega)).trans ((hO2 _ (by omega)).trans ((xup_n (by omega)).trans ((xup_n (by omega)).trans ((hO1 _ (by omega)).trans ((xup_n (by omega)).trans ((xup_n (by omega)).trans (xup_s _ _ _))))))))
  · exact RlAt.ofq (r := q + 10) hR2 (fun a x y => (hO3 a (by omega)).trans (xup_n (by omega)))
  · exact ((((((((((((Off.rf.up (by omega) (by omega)).up (by omega) (by omega)).up (by omega) (by omega)).up (by omega) (by omega)).up (by omega) (by omega)).up (by omega) (by omega)).up (by omega) (by omega)).up (by omega) (by omega)).tr (hO1.mono (by omega) (by omega))).up (by omega) (by omega)).up (by omega) (by omega)).tr (hO2.mono (by omega) (by omega))).up (by omega) (by omega) |>.tr (hO3.mono (by omega) (by omega))
end SS8
