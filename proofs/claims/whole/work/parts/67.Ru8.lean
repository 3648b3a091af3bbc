/-! StateShares: grade -/
abbrev rlEq (A B : Rl) : Prop := A.2.2.2.2.2 = B.2.2.2.2.2 ∧ ∀ i, i < A.2.2.2.2.2 → A.1 i = B.1 i ∧ A.2.1 i = B.2.1 i ∧ A.2.2.1 i = B.2.2.1 i ∧ A.2.2.2.1 i = B.2.2.2.1 i ∧ A.2.2.2.2.1 i = B.2.2.2.2.1 i
abbrev rdEq (r r' : Rd) : Prop := r.1 = r'.1 ∧ r.2.1 = r'.2.1 ∧ rlEq r.2.2 r'.2.2
theorem rlAdd_eq {A B : Rl} {a c cm b v : Nat} (h : rlEq A B) : rlEq (rlAdd A a c cm b v) (rlAdd B a c cm b v) := by
  refine ⟨by show A.2.2.2.2.2 + 1 = B.2.2.2.2.2 + 1; rw [h.1], fun i hi => ?_⟩
  have hi : i < A.2.2.2.2.2 + 1 := hi
  show va_up A.1 _ a i = va_up B.1 _ a i ∧ va_up A.2.1 _ c i = va_up B.2.1 _ c i ∧ va_up A.2.2.1 _ cm i = va_up B.2.2.1 _ cm i ∧ va_up A.2.2.2.1 _ b i = va_up B.2.2.2.1 _ b i ∧ va_up A.2.2.2.2.1 _ v i = va_up B.2.2.2.2.1 _ v i
  rw [← h.1]
  by_cases z : i = A.2.2.2.2.2
  · subst z
    rw [up_s, up_s, up_s, up_s, up_s, up_s, up_s, up_s, up_s, up_s]
    exact ⟨rfl, rfl, rfl, rfl, rfl⟩
  · rw [up_n z, up_n z, up_n z, up_n z, up_n z, up_n z, up_n z, up_n z, up_n z, up_n z]
    exact h.2 i (by omega)
theorem rdV_eq {n : Nat} {tx : Nat → Nat} {s : Wd} {k a c cm b : Nat} {A B : Rl} (h : rlEq A B) : rdEq (rdV n tx s k A a c cm b) (rdV n tx s k B a c cm b) := by
  unfold rdV
  match valA n tx s k with
  | none => exact ⟨rfl, rfl, h⟩
  | some v => exact ⟨rfl, rfl, rlAdd_eq h⟩
theorem rdB_eq {n : Nat} {tx : Nat → Nat} {s : Wd} {k a c : Nat} {A B : Rl} (h : rlEq A B) : rdEq (rdB n tx s k A a c) (rdB n tx s k B a c) := by
  unfold rdB
  by_cases z : isC tx s k = true
  · rw [if_pos z, if_pos z]
    match numA tx s (k + 1) with
    | none => exact ⟨rfl, rfl, h⟩
    | some b =>
      show rdEq (if wIs tx s (k + 2) 8 = true then _ else _) (if wIs tx s (k + 2) 8 = true then _ else _)
      by_cases y : wIs tx s (k + 2) 8 = true
      · rw [if_pos y, if_pos y]; exact rdV_eq h
      · rw [if_neg y, if_neg y]; exact ⟨rfl, rfl, h⟩
  · rw [if_neg z, if_neg z]; exact ⟨rfl, rfl, h⟩
theorem rdR_eq {n : Nat} {tx : Nat → Nat} {s : Wd} {k : Nat} {A B : Rl} (h : rlEq A B) : rdEq (rdR n tx s k A) (rdR n tx s k B) := by
  unfold rdR
  by_cases z : amtA tx s k = 0
  · rw [if_pos z, if_pos z]; exact rdV_eq h
  · rw [if_neg z, if_neg z]
    by_cases y : amtA tx s k = 4
    · rw [if_pos y, if_pos y]
      match numA tx s (k + 1) with
      | none => exact ⟨rfl, rfl, h⟩
      | some c => exact rdB_eq h
    · rw [if_neg y, if_neg y]; exact rdB_eq h
theorem rdRs_eq {n : Nat} {tx : Nat → Nat} {s : Wd} : ∀ d k (A B : Rl), rlEq A B → rdEq (rdRs n tx s d k A) (rdRs n tx s d k B)
  | 0, _, _, _, h => ⟨rfl, rfl, h⟩
  | d + 1, k, A, B, h => by
    have hr := rdR_eq (n := n) (tx := tx) (s := s) (k := k) h
    rw [rdRs_s, rdRs_s, ← hr.1, ← hr.2.1]
    by_cases z : (rdR n tx s k A).1 = true
    · rw [if_pos z, if_pos z]
      by_cases y : (rdR n tx s k A).2.1 = s.2.2
      · rw [if_pos y, if_pos y]; exact ⟨rfl, hr.2.1, hr.2.2⟩
      · rw [if_neg y, if_neg y]
        by_cases x : wIs tx s (rdR n tx s k A).2.1 9 = true
        · rw [if_pos x, if_pos x]; exact rdRs_eq d _ _ _ hr.2.2
        · rw [if_neg x, if_neg x]; exact ⟨rfl, hr.2.1, hr.2.2⟩
    · rw [if_neg z, if_neg z]; exact ⟨rfl, hr.2.1, hr.2.2⟩
theorem rdRs_pos {n len : Nat} {tx : Nat → Nat} {s : Wd} (hw : wOK tx len s) (ht : ∀ i, i < len → tx i < 65536) : ∀ d k (D : Rl), D.2.2.2.2.2 + d ≤ 20 → rlOK n D → (rdRs n tx s d k D).1 = true → 0 < (rdRs n tx s d k D).2.2.2.2.2.2.2
  | 0, _, _, _, _, h => by cases h
  | d + 1, k, D, hd, hok, h => by
    have hr := rdR_ok (k := k) hw ht hok (by omega)
    rw [rdRs_s] at h ⊢
    by_cases z : (rdR n tx s k D).1 = true
    · obtain ⟨r1, r2, r3⟩ := hr z
      rw [if_pos z] at h ⊢
      by_cases y : (rdR n tx s k D).2.1 = s.2.2
      · rw [if_pos y]
        show 0 < (rdR n tx s k D).2.2.2.2.2.2.2
        omega
      · rw [if_neg y] at h ⊢
        by_cases x : wIs tx s (rdR n tx s k D).2.1 9 = true
        · rw [if_pos x] at h ⊢
          exact rdRs_pos hw ht d _ _ (by omega) r3 h
        · rw [if_neg x] at h; cases h
    · rw [if_neg z] at h; cases h
theorem rdV_k {n : Nat} {tx : Nat → Nat} {s : Wd} {k a c cm b : Nat} {D : Rl} : (rdV n tx s k D a c cm b).2.1 ≤ k + 1 := by
  unfold rdV
  match valA n tx s k with
  | none => exact Nat.le_succ _
  | some v => exact Nat.le_refl _
theorem rdB_k {n : Nat} {tx : Nat → Nat} {s : Wd} {k a c : Nat} {D : Rl} : (rdB n tx s k D a c).2.1 ≤ k + 4 := by
  unfold rdB
  by_cases z : isC tx s k = true
  · rw [if_pos z]
    match numA tx s (k + 1) with
    | none => show k + 1 ≤ k + 4; omega
    | some b =>
      show (if wIs tx s (k + 2) 8 = true then _ else _ : Rd).2.1 ≤ k + 4
      by_cases y : wIs tx s (k + 2) 8 = true
      · rw [if_pos y]; exact rdV_k
      · rw [if_neg y]; show k + 2 ≤ k + 4; omega
  · rw [if_neg z]; show k ≤ k + 4; omega
theorem rdR_k {n : Nat} {tx : Nat → Nat} {s : Wd} {k : Nat} {D : Rl} : (rdR n tx s k D).2.1 ≤ k + 6 := by
  unfold rdR
  by_cases z : amtA tx s k = 0
  · rw [if_pos z]; exact Nat.le_trans rdV_k (by omega)
  · rw [if_neg z]
    by_cases y : amtA tx s k = 4
    · rw [if_pos y]
      match numA tx s (k + 1) with
      | none => show k + 1 ≤ k + 6; omega
      | some c => exact Nat.le_trans rdB_k (by omega)
    · rw [if_neg y]; exact Nat.le_trans rdB_k (by omega)
theorem rdRs_k {n : Nat} {tx : Nat → Nat} {s : Wd} : ∀ d k (D : Rl), (rdRs n tx s d k D).2.1 ≤ k + 7 * d
  | 0, _, _ => Nat.le_refl _
  | d + 1, k, D => by
    have h1 := rdR_k (n := n) (tx := tx) (s := s) (k := k) (D := D)
    rw [rdRs_s]
    by_cases z : (rdR n tx s k D).1 = true
    · rw [if_pos z]
      by_cases y : (rdR n tx s k D).2.1 = s.2.2
      · rw [if_pos y]; show (rdR n tx s k D).2.1 ≤ _; omega
      · rw [if_neg y]
        by_cases x : wIs tx s (rdR n tx s k D).2.1 9 = true
        · rw [if_pos x]
          have := rdRs_k (n := n) (tx := tx) (s := s) d ((rdR n tx s k D).2.1 + 1) (rdR n tx s k D).2.2
          omega
        · rw [if_neg x]; show (rdR n tx s k D).2.1 ≤ _; omega
    · rw [if_neg z]; show (rdR n tx s k D).2.1 ≤ _; omega
theorem neg_le : ∀ k, k < 200 → (-1 : Int32) - nI k ≤ 0 := by decide +kernel
/-- the answer of grade and the rules that hold then -/
def grdR (n : Nat) (tx : Nat → Nat) (len : Nat) : Rd := rdRs n tx (wds tx len) 20 0 rl0
section RU8
variable {g : xG} {post : xPost} {h : xHp} {nx : Nat}
theorem c_grade {S n len lm ft : Nat} {mk : Nat → Option Nat} {kd tx A Bs : Nat → Nat} {R : Rl} {wk ev : Tr} {w : Nat → Int} (hI : ssI n mk kd tx len R lm ft A Bs wk ev w) (hX : Ss h S n mk kd tx len R lm ft A Bs wk ev w) (hp1 : (grdR n tx len).1 = true → ∀ h' R', rlEq R' (grdR n tx len).2.2 → rlOK n R' → Ss h' S n mk kd tx 0 R' lm ft A Bs wk ev w → Off S (491 + 24 * n) h h' → post (some (.int (nI (grdR n tx len).2.2.2.2.2.2.2))) h' nx) (hp0 : (grdR n tx len).1 = false → ∀ h', Ss h' S n mk kd tx 0 R lm ft A Bs wk ev w → Off S (491 + 24 * n) h h' → post (some (.int ((-1) - nI (grdR n tx len).2.1))) h' nx) : Ct g M_X9_grade [.ref S] h nx post := by
  obtain ⟨old, gr, C, T, G, P, B, kn, hG, hX⟩ := hX
  obtain ⟨ws, we, nw, nxt, hd, dr, D, so, ch, cu, wy, wg, p, W, e, ku, kl, vu, vl, ⟨x1, x2, x3, x4, x5, x6, x7⟩, ⟨y1, y2, y3, y4, y5, y6⟩⟩ := id hX
  obtain ⟨i1, i2, i3, i4, i5, i6, i7, i8, i9, i10, i11⟩ := id hI
  have ht : ∀ i, i < len → tx i < 65536 := fun i hi => by have := i4.2 i hi; omega
  have hq : rdEq (rdA n tx len D) (grdR n tx len) := rdRs_eq 20 0 _ _ ⟨rfl, fun i hi => absurd hi (Nat.not_lt_zero _)⟩
  refine Ct.of (by decide +kernel) (Nat.le_of_ble_eq_true rfl) (v_X9_grade_0 ⟨_, _, _, _, _, _, _, _, x1, _, _, _, _, _, _, _, _, _, x2.1, c_readCollected i1.2 x2 i4.1 ht (fun hr hok h1 ws1 we1 w1 k1 hU1 hO1 => ⟨_, rfl, fun z => ?_, fun z => ?_⟩) (fun hr h1 ws1 we1 w1 k1 hU1 hO1 => ⟨_, rfl, fun z => ?_, fun z => ?_⟩)⟩)
  · have hpos := rdRs_pos (wds_ok (tx := tx) (len := len)).1 ht 20 0 (rl0D D) (by show 0 + 20 ≤ 20; decide) ⟨Nat.zero_le _, fun i hi => absurd hi (Nat.not_lt_zero _)⟩ hr
    have h20 := hok.1
    exact absurd z (nI_nle hpos (by omega))
  · have o1 : ∀ q, (q < S + 1 ∨ S + 17 ≤ q) → h1 q = h q := fun q a => hO1 q (by omega)
    have hK1 := x3.ofq (h' := h1) (fun q a b => o1 q (by omega))
    refine ⟨_, _, _, _, _, _, _, _, (o1 S (by omega)).trans x1, _, _, _, _, hK1.1, c_judgeAll hK1 hU1 hok (by omega) i1.2 i2 (fun h2 gr2 so2 hK2 hg2 hO2 => ?_)⟩
    have o2 : ∀ q, (q < S + 1 ∨ S + 22 ≤ q) → h2 q = h q := fun q a => (hO2 q (by omega)).trans (o1 q (by omega))
    have o3 : ∀ q, ¬ q = S → (q < S + 1 ∨ S + 22 ≤ q) → xup h2 S (ssO S n 1) q = h q := fun q a b => (xup_n a).trans (o2 q b)
    refine ⟨rfl, _, _, _, _, _, _, _, _, (o2 S (by omega)).trans x1, ?_⟩
    rw [hq.2.2.1]
    refine hp1 (by rw [← hq.1]; exact hr) _ (rdA n tx len D).2.2 hq.2.2 hok ⟨1, gr2, C, T, G, P, B, kn, hg2, ?_⟩ (((hO1.mono (by omega) (by omega)).tr (hO2.mono (by omega) (by omega))).up (by omega) (by omega))
    exact ⟨ws1, we1, w1, k1, dr, hd, R, so2, ch, cu, wy, wg, p, W, e, ku, kl, vu, vl, ⟨xup_s _ _ _, hU1.ofq (fun q a b => (xup_n (by omega)).trans (hO2 q (by omega))), hK2.ofq (fun q a b => xup_n (by omega)), x4.ofq (fun q a b => o3 q (by omega) (by omega)), x5.ofq (fun q a b => o3 q (by omega) (by omega)), x6.ofq (fun q a b => o3 q (by omega) (by omega)), x7.ofq (fun q a b => o3 q (by omega) (by omega))⟩, ⟨by decide, fun z => absurd z (by decide), y3, y4, y5, y6⟩⟩
  · have o1 : ∀ q, (q < S + 1 ∨ S + 17 ≤ q) → h1 q = h q := fun q a => hO1 q (by omega)
    rw [hq.2.1]
    exact hp0 (by rw [← hq.1]; exact hr) h1 ⟨old, gr, C, T, G, P, B, kn, hG, ⟨ws1, we1, w1, k1, hd, dr, _, so, ch, cu, wy, wg, p, W, e, ku, kl, vu, vl, ⟨(o1 S (by omega)).trans x1, hU1, x3.ofq (fun q a b => o1 q (by omega)), x4.ofq (fun q a b => o1 q (by omega)), x5.ofq (fun q a b => o1 q (by omega)), x6.ofq (fun q a b => o1 q (by omega)), x7.ofq (fun q a b => o1 q (by omega))⟩, ⟨y1, y2, y3, y4, y5, y6⟩⟩⟩ (hO1.mono (by omega) (by omega))
  · have hk := rdRs_k (n := n) (tx := tx) (s := wds tx len) 20 0 (rl0D D)
    exact absurd (neg_le _ (by show (rdRs n tx (wds tx len) 20 0 (rl0D D)).2.1 < 200; omega)) z
end RU8
