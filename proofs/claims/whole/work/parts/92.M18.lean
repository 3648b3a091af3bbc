/-! the reference: works and events -/
section M18
variable {g : xG} {Q : mQ} {s : MV} {x0 : Nat}
theorem l_goes_w {n base y D m : Nat} {P : Nat → Nat} {w : Tr} (hn : 2 ≤ n ∧ n ≤ 6) (hb : base + 6 ≤ 72 ∨ base = 75) (hy : y < 11) (hm : w.1 y = m) (hm12 : m ≤ 12) (hP : prOK s) (hw : trR s.wc s.wk w) (ho : trOK n w.2.1 w.2.2.1 w.2.2.2.1 w.2.2.2.2 y m) (hv : fv n P D) (hB : D * 1000 ^ 12 * 6 < 1000000000 ^ 112) (R0 : St)
    (hp : ∀ R', (∀ i, i < n → Fq R' (base + i) (trP w.2.1 w.2.2.1 w.2.2.2.1 w.2.2.2.2 y P m i) (trD w.2.2.2.2 y D m)) → oths (fun q => (base ≤ q ∧ q < base + 6) ∨ q = 72 ∨ q = 74) R0 R' → Q none (mR s R')) :
    ∀ (d k : Nat) (R : St), k + d = m → (∀ i, i < n → Fq R (base + i) (trP w.2.1 w.2.2.1 w.2.2.2.1 w.2.2.2.2 y P k i) (trD w.2.2.2.2 y D k)) → oths (fun q => (base ≤ q ∧ q < base + 6) ∨ q = 72 ∨ q = 74) R0 R →
    BlkM g M_X10_goes x0 Q 3 [(0, .ref x0), (1, .int (nI base)), (2, .ref (x0 + 13)), (3, .int (nI y)), (4, .int (nI m)), (5, .int (nI k))] [] (mR s R) := by
  intro d
  induction d with
  | zero =>
    intro k R hk hF hO
    have : k = m := by omega
    subst this
    exact v_X10_goes_w_3 ⟨⟨by omega, by omega⟩, fun _ => hp R hF hO, fun z => absurd z (by omega)⟩
  | succ d ih =>
    intro k R hk hF hO
    obtain ⟨o1, o2, o3, o4, o5, o6⟩ := ho k (by omega)
    obtain ⟨e1, e2, e3, e4⟩ := hw.2 y hy k (by omega)
    have fvk := tr_fv hv (k := k) (fun i hi => ho i (by omega))
    have hDk : trD w.2.2.2.2 y D k ≤ D * 1000 ^ k := trD_le (fun i hi => (ho i (by omega)).2.2.2.2.2)
    have hp12 : D * 1000 ^ (k + 1) ≤ D * 1000 ^ 12 := Nat.mul_le_mul_left _ (Nat.pow_le_pow_right (by decide) (by omega))
    rw [Nat.pow_succ, ← Nat.mul_assoc] at hp12
    have hBB := BBmono (a := 112) (b := 159) (by decide)
    have hBB2 := BBmono (a := 112) (b := 160) (by decide)
    generalize hF' : w.2.1 (y * 12 + k) = f at *
    generalize hT' : w.2.2.1 (y * 12 + k) = t at *
    generalize hA' : w.2.2.2.1 (y * 12 + k) = a at *
    generalize hB' : w.2.2.2.2 (y * 12 + k) = b at *
    generalize hPk : trP w.2.1 w.2.2.1 w.2.2.2.1 w.2.2.2.2 y P k = p at *
    generalize hDD : trD w.2.2.2.2 y D k = D' at *
    have hpf : ∀ i, i < n → p i ≤ 6 * D' := fun i hi => Nat.le_trans (sm_le hi) fvk.2
    have hDb : D' * b ≤ D * 1000 ^ k * 1000 := Nat.mul_le_mul hDk o6
    have hDa : D' * a ≤ D * 1000 ^ k * 1000 := Nat.mul_le_mul hDk (by omega)
    have hpb : ∀ i, i < n → p i * b ≤ 6 * (D' * b) := fun i hi => by
      have := Nat.mul_le_mul_right b (hpf i hi)
      rw [Nat.mul_assoc] at this; exact this
    have hpa : ∀ i, i < n → p i * a ≤ 6 * (D' * a) := fun i hi => by
      have := Nat.mul_le_mul_right a (hpf i hi)
      rw [Nat.mul_assoc] at this; exact this
    have bf := hpb f o1
    have af := hpa f o1
    have bt' := hpb t o2
    have hab : p f * a ≤ p f * b := Nat.mul_le_mul_left _ o4
    have e1' : (mR s R).wk (4 * (12 * y + k)) = f := e1
    refine v_X10_goes_w_3 ⟨⟨by omega, by omega⟩, fun z => absurd z (by omega), fun _ => ⟨by omega, ?_⟩⟩
    rw [e1']
    refine f_copy (s := mR s R) (by omega) (by decide) (by omega) (hF f o1) (fun R1 k1 p1 => ⟨rfl, by omega, ?_⟩)
    have e3' : (mR (mR s R) R1).wk (4 * (12 * y + k) + 2) = a := e3
    have e4' : (mR (mR s R) R1).wk (4 * (12 * y + k) + 3) = b := e4
    rw [e3', e4']
    refine ⟨by omega, by omega, f_part (s := mR s R1) (by decide) hP k1 fvk.1 (by omega) ⟨o5, o6⟩ (by omega) (by omega) (fun R2 k2 p2 => ⟨rfl, by omega, ?_⟩)⟩
    have e5' : (mR (mR s R1) R2).wk (4 * (12 * y + k)) = f := e1
    rw [e5']
    have hF2 : ∀ i, i < n → Fq R2 (base + i) (p i * b) (D' * b) := fun i hi => (((hF i hi).oth p1 (by omega)).oth p2 (by omega)).sc
    refine f_take (s := mR s R2) (by omega) (by decide) (by omega) (by decide) hP (hF2 f o1) k2 (Nat.mul_pos fvk.1 o5) (by omega) hab (by omega) (fun R3 k3 p3 => ⟨rfl, by omega, ?_⟩)
    have e6' : (mR (mR s R2) R3).wk (4 * (12 * y + k) + 1) = t := e2
    rw [e6']
    have hF3 : ∀ i, i < n → i ≠ f → Fq R3 (base + i) (p i * b) (D' * b) := fun i hi hne => (hF2 i hi).same (p3 _ (by omega))
    have h74 : Fq R3 74 (p f * a) (D' * b) := k2.same (p3 _ (by omega))
    refine f_add (s := mR s R3) (by omega) (by decide) (by omega) (by decide) hP (hF3 t o2 (fun z => o3 z.symm)) h74 (Nat.mul_pos fvk.1 o5) (by omega) (by omega) (by omega) (fun R4 k4 p4 => ⟨rfl, ?_⟩)
    refine ih (k + 1) R4 (by omega) (fun i hi => ?_) ?_
    · show Fq R4 (base + i) (trf (w.2.1 (y * 12 + k)) (w.2.2.1 (y * 12 + k)) (w.2.2.2.1 (y * 12 + k)) (w.2.2.2.2 (y * 12 + k)) (trP w.2.1 w.2.2.1 w.2.2.2.1 w.2.2.2.2 y P k) i) (trD w.2.2.2.2 y D k * w.2.2.2.2 (y * 12 + k))
      rw [hF', hT', hA', hB', hPk, hDD]
      unfold trf
      by_cases z : i = f
      · subst z
        rw [if_pos rfl, Nat.mul_sub]
        exact k3.same (p4 _ (by omega))
      · rw [if_neg z]
        by_cases z2 : i = t
        · subst z2
          rw [if_pos rfl]
          exact k4
        · rw [if_neg z2]
          exact (hF3 i hi z).same (p4 _ (by omega))
    · refine hO.tr ((p1.s (Or.inr (Or.inr rfl))).tr ((p2.s (Or.inr (Or.inr rfl))).tr ((p3.mono ?_).tr (p4.mono ?_))))
      · rintro q (rfl | rfl)
        · exact Or.inl (by omega)
        · exact Or.inr (Or.inl rfl)
      · rintro q (rfl | rfl)
        · exact Or.inl (by omega)
        · exact Or.inr (Or.inl rfl)
theorem f_goes_w {n base y D : Nat} {P : Nat → Nat} {w : Tr} (hn : 2 ≤ n ∧ n ≤ 6) (hb : base + 6 ≤ 72 ∨ base = 75) (hy : y < 11) (hm12 : w.1 y ≤ 12) (hP : prOK s) (hw : trR s.wc s.wk w) (ho : trOK n w.2.1 w.2.2.1 w.2.2.2.1 w.2.2.2.2 y (w.1 y)) (hv : fv n P D) (hB : D * 1000 ^ 12 * 6 < 1000000000 ^ 112) (hF : ∀ i, i < n → Fq s.R (base + i) (P i) D)
    (hp : ∀ R', (∀ i, i < n → Fq R' (base + i) (trP w.2.1 w.2.2.1 w.2.2.2.1 w.2.2.2.2 y P (w.1 y) i) (trD w.2.2.2.2 y D (w.1 y))) → oths (fun q => (base ≤ q ∧ q < base + 6) ∨ q = 72 ∨ q = 74) s.R R' → Q none (mR s R')) : CtM g M_X10_goes [.ref x0, .int (nI base), .ref (x0 + 13), .int (nI y), .int (nI (s.wc y))] x0 s Q := by
  rw [hw.1 y hy]
  exact CtM.of (by decide +kernel) (Nat.le_of_ble_eq_true rfl) (v_X10_goes_w_0 (l_goes_w (s := s) hn hb hy rfl hm12 hP hw ho hv hB s.R hp (w.1 y) 0 s.R (Nat.zero_add _) hF oths.rf))
theorem l_goes_e {n base y D m : Nat} {P : Nat → Nat} {w : Tr} (hn : 2 ≤ n ∧ n ≤ 6) (hb : base + 6 ≤ 72 ∨ base = 75) (hy : y < 11) (hm : w.1 y = m) (hm12 : m ≤ 12) (hP : prOK s) (hw : trR s.ec s.ev w) (ho : trOK n w.2.1 w.2.2.1 w.2.2.2.1 w.2.2.2.2 y m) (hv : fv n P D) (hB : D * 1000 ^ 12 * 6 < 1000000000 ^ 112) (R0 : St)
    (hp : ∀ R', (∀ i, i < n → Fq R' (base + i) (trP w.2.1 w.2.2.1 w.2.2.2.1 w.2.2.2.2 y P m i) (trD w.2.2.2.2 y D m)) → oths (fun q => (base ≤ q ∧ q < base + 6) ∨ q = 72 ∨ q = 74) R0 R' → Q none (mR s R')) :
    ∀ (d k : Nat) (R : St), k + d = m → (∀ i, i < n → Fq R (base + i) (trP w.2.1 w.2.2.1 w.2.2.2.1 w.2.2.2.2 y P k i) (trD w.2.2.2.2 y D k)) → oths (fun q => (base ≤ q ∧ q < base + 6) ∨ q = 72 ∨ q = 74) R0 R →
    BlkM g M_X10_goes x0 Q 3 [(0, .ref x0), (1, .int (nI base)), (2, .ref (x0 + 15)), (3, .int (nI y)), (4, .int (nI m)), (5, .int (nI k))] [] (mR s R) := by
  intro d
  induction d with
  | zero =>
    intro k R hk hF hO
    have : k = m := by omega
    subst this
    exact v_X10_goes_e_3 ⟨⟨by omega, by omega⟩, fun _ => hp R hF hO, fun z => absurd z (by omega)⟩
  | succ d ih =>
    intro k R hk hF hO
    obtain ⟨o1, o2, o3, o4, o5, o6⟩ := ho k (by omega)
    obtain ⟨e1, e2, e3, e4⟩ := hw.2 y hy k (by omega)
    have fvk := tr_fv hv (k := k) (fun i hi => ho i (by omega))
    have hDk : trD w.2.2.2.2 y D k ≤ D * 1000 ^ k := trD_le (fun i hi => (ho i (by omega)).2.2.2.2.2)
    have hp12 : D * 1000 ^ (k + 1) ≤ D * 1000 ^ 12 := Nat.mul_le_mul_left _ (Nat.pow_le_pow_right (by decide) (by omega))
    rw [Nat.pow_succ, ← Nat.mul_assoc] at hp12
    have hBB := BBmono (a := 112) (b := 159) (by decide)
    have hBB2 := BBmono (a := 112) (b := 160) (by decide)
    generalize hF' : w.2.1 (y * 12 + k) = f at *
    generalize hT' : w.2.2.1 (y * 12 + k) = t at *
    generalize hA' : w.2.2.2.1 (y * 12 + k) = a at *
    generalize hB' : w.2.2.2.2 (y * 12 + k) = b at *
    generalize hPk : trP w.2.1 w.2.2.1 w.2.2.2.1 w.2.2.2.2 y P k = p at *
    generalize hDD : trD w.2.2.2.2 y D k = D' at *
    have hpf : ∀ i, i < n → p i ≤ 6 * D' := fun i hi => Nat.le_trans (sm_le hi) fvk.2
    have hDb : D' * b ≤ D * 1000 ^ k * 1000 := Nat.mul_le_mul hDk o6
    have hDa : D' * a ≤ D * 1000 ^ k * 1000 := Nat.mul_le_mul hDk (by omega)
    have hpb : ∀ i, i < n → p i * b ≤ 6 * (D' * b) := fun i hi => by
      have := Nat.mul_le_mul_right b (hpf i hi)
      rw [Nat.mul_assoc] at this; exact this
    have hpa : ∀ i, i < n → p i * a ≤ 6 * (D' * a) := fun i hi => by
      have := Nat.mul_le_mul_right a (hpf i hi)
      rw [Nat.mul_assoc] at this; exact this
    have bf := hpb f o1
    have af := hpa f o1
    have bt' := hpb t o2
    have hab : p f * a ≤ p f * b := Nat.mul_le_mul_left _ o4
    have e1' : (mR s R).ev (4 * (12 * y + k)) = f := e1
    refine v_X10_goes_e_3 ⟨⟨by omega, by omega⟩, fun z => absurd z (by omega), fun _ => ⟨by omega, ?_⟩⟩
    rw [e1']
    refine f_copy (s := mR s R) (by omega) (by decide) (by omega) (hF f o1) (fun R1 k1 p1 => ⟨rfl, by omega, ?_⟩)
    have e3' : (mR (mR s R) R1).ev (4 * (12 * y + k) + 2) = a := e3
    have e4' : (mR (mR s R) R1).ev (4 * (12 * y + k) + 3) = b := e4
    rw [e3', e4']
    refine ⟨by omega, by omega, f_part (s := mR s R1) (by decide) hP k1 fvk.1 (by omega) ⟨o5, o6⟩ (by omega) (by omega) (fun R2 k2 p2 => ⟨rfl, by omega, ?_⟩)⟩
    have e5' : (mR (mR s R1) R2).ev (4 * (12 * y + k)) = f := e1
    rw [e5']
    have hF2 : ∀ i, i < n → Fq R2 (base + i) (p i * b) (D' * b) := fun i hi => (((hF i hi).oth p1 (by omega)).oth p2 (by omega)).sc
    refine f_take (s := mR s R2) (by omega) (by decide) (by omega) (by decide) hP (hF2 f o1) k2 (Nat.mul_pos fvk.1 o5) (by omega) hab (by omega) (fun R3 k3 p3 => ⟨rfl, by omega, ?_⟩)
    have e6' : (mR (mR s R2) R3).ev (4 * (12 * y + k) + 1) = t := e2
    rw [e6']
    have hF3 : ∀ i, i < n → i ≠ f → Fq R3 (base + i) (p i * b) (D' * b) := fun i hi hne => (hF2 i hi).same (p3 _ (by omega))
    have h74 : Fq R3 74 (p f * a) (D' * b) := k2.same (p3 _ (by omega))
    refine f_add (s := mR s R3) (by omega) (by decide) (by omega) (by decide) hP (hF3 t o2 (fun z => o3 z.symm)) h74 (Nat.mul_pos fvk.1 o5) (by omega) (by omega) (by omega) (fun R4 k4 p4 => ⟨rfl, ?_⟩)
    refine ih (k + 1) R4 (by omega) (fun i hi => ?_) ?_
    · show Fq R4 (base + i) (trf (w.2.1 (y * 12 + k)) (w.2.2.1 (y * 12 + k)) (w.2.2.2.1 (y * 12 + k)) (w.2.2.2.2 (y * 12 + k)) (trP w.2.1 w.2.2.1 w.2.2.2.1 w.2.2.2.2 y P k) i) (trD w.2.2.2.2 y D k * w.2.2.2.2 (y * 12 + k))
      rw [hF', hT', hA', hB', hPk, hDD]
      unfold trf
      by_cases z : i = f
      · subst z
        rw [if_pos rfl, Nat.mul_sub]
        exact k3.same (p4 _ (by omega))
      · rw [if_neg z]
        by_cases z2 : i = t
        · subst z2
          rw [if_pos rfl]
          exact k4
        · rw [if_neg z2]
          exact (hF3 i hi z).same (p4 _ (by omega))
    · refine hO.tr ((p1.s (Or.inr (Or.inr rfl))).tr ((p2.s (Or.inr (Or.inr rfl))).tr ((p3.mono ?_).tr (p4.mono ?_))))
      · rintro q (rfl | rfl)
        · exact Or.inl (by omega)
        · exact Or.inr (Or.inl rfl)
      · rintro q (rfl | rfl)
        · exact Or.inl (by omega)
        · exact Or.inr (Or.inl rfl)
theorem f_goes_e {n base y D : Nat} {P : Nat → Nat} {w : Tr} (hn : 2 ≤ n ∧ n ≤ 6) (hb : base + 6 ≤ 72 ∨ base = 75) (hy : y < 11) (hm12 : w.1 y ≤ 12) (hP : prOK s) (hw : trR s.ec s.ev w) (ho : trOK n w.2.1 w.2.2.1 w.2.2.2.1 w.2.2.2.2 y (w.1 y)) (hv : fv n P D) (hB : D * 1000 ^ 12 * 6 < 1000000000 ^ 112) (hF : ∀ i, i < n → Fq s.R (base + i) (P i) D)
    (hp : ∀ R', (∀ i, i < n → Fq R' (base + i) (trP w.2.1 w.2.2.1 w.2.2.2.1 w.2.2.2.2 y P (w.1 y) i) (trD w.2.2.2.2 y D (w.1 y))) → oths (fun q => (base ≤ q ∧ q < base + 6) ∨ q = 72 ∨ q = 74) s.R R' → Q none (mR s R')) : CtM g M_X10_goes [.ref x0, .int (nI base), .ref (x0 + 15), .int (nI y), .int (nI (s.ec y))] x0 s Q := by
  rw [hw.1 y hy]
  exact CtM.of (by decide +kernel) (Nat.le_of_ble_eq_true rfl) (v_X10_goes_e_0 (l_goes_e (s := s) hn hb hy rfl hm12 hP hw ho hv hB s.R hp (w.1 y) 0 s.R (Nat.zero_add _) hF oths.rf))
end M18
