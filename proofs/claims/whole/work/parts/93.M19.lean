/-! the reference: a year -/
theorem Kb_c : ∀ y, y < 11 → Kb y * (1000 ^ 12 * 110 ^ 6) * 1000 ^ 12 * 6 < 1000000000 ^ 112 := by decide +kernel
theorem Kb_d : ∀ y, y < 12 → Kb y * 6000000 < 1000000000 ^ 112 := Kb_b
theorem fv_mvs {n D : Nat} {p S P : Nat → Nat} (hm : movOK n P S) (hv : fv n p D) : fv n (fun t => mvs p S P (prd S n) t n) (D * prd S n) := by
  have hS : ∀ f, f < n → S f ∣ prd S n := fun f hf => prd_dvd hf
  have hQ := prd_pos (B := S) (n := n) (fun f hf => (hm.1 f hf).1)
  refine ⟨Nat.mul_pos hv.1 hQ, ?_⟩
  rw [sm_mvs hm.2 (fun f hf _ => hS f hf)]
  have := Nat.mul_le_mul_right (prd S n) hv.2
  rw [Nat.mul_assoc] at this
  exact this
section M19
variable {g : xG} {Q : mQ} {s : MV} {x0 : Nat}
def stS (y q : Nat) : Prop := (6 * (y + 1) ≤ q ∧ q < 6 * (y + 1) + 6) ∨ (72 ≤ q ∧ q ≤ 82)
theorem m_step {y D0 : Nat} {P0 : Nat → Nat} {w v : Tr} {gr : Nat → Option Nat} (hn : 2 ≤ s.n ∧ s.n ≤ 6) (hy : y < 11) (hP : prOK s) (hc : curM s gr) (hw : trR s.wc s.wk w) (hv : trR s.ec s.ev v) (ow : trsOK s.n w) (ov : trsOK s.n v) (h83 : ∃ e, Rw s.R 83 (2 ^ 600) e) (htl : s.tl y = 0)
    (hfv : fv s.n P0 D0) (hKb : D0 ≤ Kb y) (hF : ∀ i, i < s.n → Fq s.R (6 * y + i) (P0 i) D0)
    (hp : ∀ R' tl' P3 D3, P3 = trP v.2.1 v.2.2.1 v.2.2.2.1 v.2.2.2.2 y (fun t => mvs (trP w.2.1 w.2.2.1 w.2.2.2.1 w.2.2.2.2 y P0 (w.1 y)) (aB gr s.lm s.n) (aP gr s.lm s.n) (prd (aB gr s.lm s.n) s.n) t s.n) (v.1 y) → D3 = trD v.2.2.2.2 y (trD w.2.2.2.2 y D0 (w.1 y) * prd (aB gr s.lm s.n) s.n) (v.1 y) →
      (∀ i, i < s.n → Fq R' (6 * (y + 1) + i) (P3 i) D3) → oths (stS y) s.R R' → ((tl' (y + 1) = 0 ∧ ¬ lng s.n P3 D3) ∨ (tl' (y + 1) = 1 ∧ lng s.n P3 D3)) → (∀ z, z ≠ y + 1 → tl' z = s.tl z) → Q none (MV.u_tl (mR s R') tl')) : CtM g M_X10_step [.ref x0, .int (nI y)] x0 s Q := by
  have hmov := aMov (gr := gr) (lm := s.lm) hn.2
  obtain ⟨w1, w2⟩ := ow y hy
  obtain ⟨v1, v2⟩ := ov y hy
  have fv1 := tr_fv hfv w2
  have fv2 := fv_mvs hmov fv1
  have fv3 := tr_fv fv2 v2
  have hD1 : trD w.2.2.2.2 y D0 (w.1 y) ≤ D0 * 1000 ^ 12 := Nat.le_trans (trD_le (fun i hi => (w2 i hi).2.2.2.2.2)) (Nat.mul_le_mul_left _ (Nat.pow_le_pow_right (by decide) w1))
  have hc6 : prd (aB gr s.lm s.n) s.n ≤ 110 ^ 6 := Nat.le_trans (prd_le (M := 110) (fun f hf => (hmov.1 f hf).2.1)) (Nat.pow_le_pow_right (by decide) hn.2)
  have hD2 : trD w.2.2.2.2 y D0 (w.1 y) * prd (aB gr s.lm s.n) s.n ≤ Kb y * (1000 ^ 12 * 110 ^ 6) := by
    rw [← Nat.mul_assoc]
    exact Nat.mul_le_mul (Nat.le_trans hD1 (Nat.mul_le_mul_right _ hKb)) hc6
  have hD3 : trD v.2.2.2.2 y (trD w.2.2.2.2 y D0 (w.1 y) * prd (aB gr s.lm s.n) s.n) (v.1 y) ≤ Kb y * (1000 ^ 12 * 110 ^ 6) * 1000 ^ 12 := Nat.le_trans (trD_le (fun i hi => (v2 i hi).2.2.2.2.2)) (Nat.mul_le_mul hD2 (Nat.pow_le_pow_right (by decide) v1))
  have hKc := Kb_c y hy
  have hB1 : D0 * 1000 ^ 12 * 6 < 1000000000 ^ 112 := Nat.lt_of_le_of_lt (Nat.mul_le_mul_right 6 (Nat.mul_le_mul_right (1000 ^ 12) (Nat.le_trans hKb (Nat.le_mul_of_pos_right _ (by decide))))) hKc
  have hB2 : trD w.2.2.2.2 y D0 (w.1 y) * prd (aB gr s.lm s.n) s.n * 1000 ^ 12 * 6 < 1000000000 ^ 112 := Nat.lt_of_le_of_lt (Nat.mul_le_mul_right 6 (Nat.mul_le_mul_right (1000 ^ 12) hD2)) hKc
  have hB3 : trD v.2.2.2.2 y (trD w.2.2.2.2 y D0 (w.1 y) * prd (aB gr s.lm s.n) s.n) (v.1 y) * 6 < 1000000000 ^ 112 := Nat.lt_of_le_of_lt (Nat.mul_le_mul_right 6 hD3) hKc
  clear hD1 hD2 hD3 hKc hc6 hKb
  have hBB := BBmono (a := 112) (b := 159) (by decide)
  have hBB2 := BBmono (a := 112) (b := 160) (by decide)
  have hp' := fun R' tl' => hp R' tl' _ _ rfl rfl
  clear hp
  generalize hE1 : trP w.2.1 w.2.2.1 w.2.2.2.1 w.2.2.2.2 y P0 (w.1 y) = P1 at *
  generalize hE2 : trD w.2.2.2.2 y D0 (w.1 y) = D1 at *
  generalize hEc : prd (aB gr s.lm s.n) s.n = c at *
  generalize hE5 : trP v.2.1 v.2.2.1 v.2.2.2.1 v.2.2.2.2 y (fun t => mvs P1 (aB gr s.lm s.n) (aP gr s.lm s.n) c t s.n) (v.1 y) = P3 at *
  generalize hE6 : trD v.2.2.2.2 y (D1 * c) (v.1 y) = D3 at *
  have hc0 : 0 < c := by
    rcases Nat.eq_zero_or_pos c with z | z
    · subst z; have := fv2.1; rw [Nat.mul_zero] at this; omega
    · exact z
  have hcd : ∀ a, a < s.n → aB gr s.lm s.n a ∣ c := fun a ha => by rw [← hEc]; exact prd_dvd ha
  -- the last loop: too long
  have l4 : ∀ R : St, (∀ i, i < s.n → Fq R (6 * (y + 1) + i) (P3 i) D3) → oths (stS y) s.R R → ∀ (d k : Nat) (R2 : St) (t : Nat → Nat), k + d = s.n → oths (fun q => q = 73) R R2 → ((t (y + 1) = 0 ∧ ∀ i, i < k → ∀ u l, lowT (P3 i) D3 u l → u < 2 ^ 600 ∧ l < 2 ^ 600) ∨ (t (y + 1) = 1 ∧ lng s.n P3 D3)) → (∀ z, z ≠ y + 1 → t z = s.tl z) → BlkM g M_X10_step x0 Q 168 [(0, .ref x0), (1, .int (nI y)), (2, .int (nI (6 * (y + 1)))), (3, .int (nI k))] [] (MV.u_tl (mR s R2) t) := by
    intro R hFR hOR d
    induction d with
    | zero =>
      intro k R2 t hk hO ht hz
      have : k = s.n := by omega
      subst this
      refine v_X10_step_168 ⟨⟨by omega, by show s.n < _; omega⟩, fun _ => hp' R2 t (fun i hi => (hFR i hi).same (hO _ (by omega))) (hOR.tr (hO.mono (fun q hq => by subst hq; exact Or.inr (by omega)))) ?_ hz, fun q => absurd q (by show ¬ s.n < s.n; omega)⟩
      rcases ht with ⟨t0, t1⟩ | t0
      · refine Or.inl ⟨t0, fun hl => ?_⟩
        unfold lng at hl
        obtain ⟨i, hi, u, l, h1, h2⟩ := hl
        exact h2 (t1 i hi u l h1)
      · exact Or.inr t0
    | succ d ih =>
      intro k R2 t hk hO ht hz
      have hk2 : k < s.n := by omega
      have h1 : ((y + 1) < 12) := by omega
      have upz : ∀ x : Nat, ∀ z, z ≠ y + 1 → va_up t (y + 1) x z = s.tl z := fun x z hne => (up_n hne).trans (hz z hne)
      refine v_X10_step_168 ⟨⟨by omega, by show s.n < _; omega⟩, fun q => absurd q (by show ¬ s.n ≤ k; omega), fun _ => ⟨h1, ?_⟩⟩
      show t (y + 1) < 2 ^ 31 ∧ (¬ t (y + 1) = 0 → _) ∧ (t (y + 1) = 0 → _)
      refine ⟨by rcases ht with h | h <;> omega, fun q => ⟨h1, by decide, ih (k + 1) R2 _ (by omega) hO ?_ (upz 1)⟩, fun q => ?_⟩
      · rcases ht with h | h
        · omega
        · exact Or.inr ⟨up_s, h.2⟩
      · have hsh : ∀ i, i < k → ∀ u l, lowT (P3 i) D3 u l → u < 2 ^ 600 ∧ l < 2 ^ 600 := by
          rcases ht with h | h
          · exact h.2
          · omega
        obtain ⟨x, e, f1, f2, f3⟩ := (hFR k hk2).same (hO (6 * (y + 1) + k) (by omega))
        have hlow := Fq.lowT f1 f2 f3
        obtain ⟨e83, r83⟩ := h83
        have r83' : Rw R2 83 (2 ^ 600) e83 := (r83.same (hOR 83 (by unfold stS; omega))).same (hO 83 (by omega))
        have hle := hlow.le fv3.1
        refine m_isLong (s := MV.u_tl (mR s R2) t) (by omega) hP f1 r83' (by omega) (fun R3 o3 => ⟨_, rfl, ?_, fun z => ⟨h1, by decide, ?_⟩, fun z => ⟨h1, by decide, ?_⟩⟩)
        · split <;> decide
        · have z' : x < 2 ^ 600 ∧ pw e 168 < 2 ^ 600 := by
            by_cases h : x < 2 ^ 600 ∧ pw e 168 < 2 ^ 600
            · exact h
            · rw [if_neg h] at z; exact absurd z (by decide)
          refine ih (k + 1) R3 _ (by omega) (hO.tr (o3.s rfl)) (Or.inl ⟨up_s, fun i hi u l hul => ?_⟩) (upz 0)
          by_cases h : i = k
          · subst h
            obtain ⟨a1, a2⟩ := lowT.uniq fv3.1 hul hlow
            rw [a1, a2]; exact z'
          · exact hsh i (by omega) u l hul
        · have z' : ¬ (x < 2 ^ 600 ∧ pw e 168 < 2 ^ 600) := by
            intro h
            rw [if_pos h] at z; exact absurd rfl z
          exact ih (k + 1) R3 _ (by omega) (hO.tr (o3.s rfl)) (Or.inr ⟨up_s, lng_mk hk2 hlow z'⟩) (upz 1)
  -- what moves
  have l3 : ∀ (d b : Nat) (R : St), b + d = s.n → (∀ a, a < s.n → Fq R (75 + a) (P1 a) D1) → (∀ i, i < b → Fq R (6 * (y + 1) + i) (mvs P1 (aB gr s.lm s.n) (aP gr s.lm s.n) c i s.n) (D1 * c)) → oths (stS y) s.R R → BlkM g M_X10_step x0 Q 56 [(0, .ref x0), (1, .int (nI y)), (2, .int (nI (6 * (y + 1)))), (3, .int (nI b))] [] (mR s R) := by
    intro d
    induction d with
    | zero =>
      intro b R hb h75 hnx hO
      have : b = s.n := by omega
      subst this
      refine v_X10_step_56 ⟨⟨by omega, by show s.n < _; omega⟩, fun _ => ⟨hy, f_goes_e (s := mR s R) (w := v) hn (Or.inl (by omega)) hy v1 hP hv v2 fv2 hB2 hnx (fun R2 k2 o2 => ⟨rfl, by omega, by omega, ?_, ?_⟩)⟩, fun q => absurd q (by show ¬ s.n < s.n; omega)⟩
      · show s.tl y ≤ 1
        omega
      · rw [hE5, hE6] at k2
        have hO2 : oths (stS y) s.R R2 := hO.tr (o2.mono (fun q hq => by
          rcases hq with h | h | h
          · exact Or.inl h
          · exact Or.inr (by omega)
          · exact Or.inr (by omega)))
        exact l4 R2 k2 hO2 s.n 0 R2 (va_up s.tl (y + 1) (s.tl y)) (by omega) oths.rf (Or.inl ⟨by rw [up_s]; exact htl, fun i hi => absurd hi (by omega)⟩) (fun z hz => up_n hz)
    | succ d ih =>
      intro b R hb h75 hnx hO
      have hb2 : b < s.n := by omega
      have inner : ∀ (m a : Nat) (R : St), a + m = s.n → (∀ a, a < s.n → Fq R (75 + a) (P1 a) D1) → (∀ i, i < b → Fq R (6 * (y + 1) + i) (mvs P1 (aB gr s.lm s.n) (aP gr s.lm s.n) c i s.n) (D1 * c)) → Fq R (6 * (y + 1) + b) (mvs P1 (aB gr s.lm s.n) (aP gr s.lm s.n) c b a) (D1 * c) → oths (stS y) s.R R → BlkM g M_X10_step x0 Q 75 [(0, .ref x0), (1, .int (nI y)), (2, .int (nI (6 * (y + 1)))), (3, .int (nI b)), (4, .int (nI a))] [] (mR s R) := by
        intro m
        induction m with
        | zero =>
          intro a R hm h75 hnx hbb hO
          have : a = s.n := by omega
          subst this
          refine v_X10_step_75 ⟨⟨by omega, by show s.n < _; omega⟩, fun _ => ih (b + 1) R (by omega) h75 (fun i hi => ?_) hO, fun q => absurd q (by show ¬ s.n < s.n; omega)⟩
          by_cases z : i = b
          · subst z; exact hbb
          · exact hnx i (by omega)
        | succ m ihm =>
          intro a R hm h75 hnx hbb hO
          have ha : a < s.n := by omega
          obtain ⟨m1, m2, m3⟩ := hmov.1 a ha
          have m4 := m3 b hb2
          have hPa : P1 a ≤ 6 * D1 := Nat.le_trans (sm_le ha) fv1.2
          have hD1c : D1 ≤ D1 * c := Nat.le_mul_of_pos_right _ hc0
          have hpa : P1 a * aP gr s.lm s.n (a * 6 + b) ≤ 6 * D1 * 110 := Nat.mul_le_mul hPa (by omega)
          have hda : D1 * aB gr s.lm s.n a ≤ D1 * 110 := Nat.mul_le_mul_left _ m2
          obtain ⟨q, hq⟩ := hcd a ha
          have hcq : c / aB gr s.lm s.n a = q := by rw [hq]; exact Nat.mul_div_cancel_left _ m1
          refine v_X10_step_75 ⟨⟨by omega, by show s.n < _; omega⟩, fun q => absurd q (by show ¬ s.n ≤ a; omega), fun _ => f_copy (s := mR s R) (by omega) (by decide) (by omega) (h75 a ha) (fun R1 k1 o1 => ⟨rfl, ?_⟩)⟩
          refine m_shareAbove (s := mR s R1) hn hc ha hb2 ⟨_, rfl, ?_, m_shareBelow (s := mR s R1) hn hc ha ⟨_, rfl, ?_⟩⟩
          · show aP gr s.lm s.n (a * 6 + b) < _
            omega
          · show CtM g M_X10_part [.ref x0, .int (nI 81), .long (lN (aP gr s.lm s.n (a * 6 + b))), .int (nI (aB gr s.lm s.n a))] x0 (mR s R1) _
            refine f_part (s := mR s R1) (by decide) hP k1 fv1.1 (by omega) ⟨m1, by omega⟩ (by omega) (by omega) (fun R2 k2 o2 => ⟨rfl, ?_⟩)
            have k2' : Fq R2 81 (P1 a * (c / aB gr s.lm s.n a * aP gr s.lm s.n (a * 6 + b))) (D1 * c) := by
              refine k2.eq (Nat.mul_pos fv1.1 m1) ?_
              rw [hcq, hq]
              grind
            have hbb2 : Fq R2 (6 * (y + 1) + b) (mvs P1 (aB gr s.lm s.n) (aP gr s.lm s.n) c b a) (D1 * c) := (hbb.oth o1 (by omega)).oth o2 (by omega)
            have hmv : ∀ i, i ≤ s.n → mvs P1 (aB gr s.lm s.n) (aP gr s.lm s.n) c b i ≤ 6 * (D1 * c) := by
              intro i hi
              have mono : ∀ j, i + j ≤ s.n → mvs P1 (aB gr s.lm s.n) (aP gr s.lm s.n) c b i ≤ mvs P1 (aB gr s.lm s.n) (aP gr s.lm s.n) c b (i + j) := by
                intro j
                induction j with
                | zero => intro _; exact Nat.le_refl _
                | succ j ihj =>
                  intro hj
                  refine Nat.le_trans (ihj (by omega)) ?_
                  show _ ≤ mvs P1 (aB gr s.lm s.n) (aP gr s.lm s.n) c b (i + j) + _
                  omega
              have h1 := mono (s.n - i) (by omega)
              rw [show i + (s.n - i) = s.n by omega] at h1
              have h2 := sm_le (p := fun t => mvs P1 (aB gr s.lm s.n) (aP gr s.lm s.n) c t s.n) hb2
              exact Nat.le_trans h1 (Nat.le_trans h2 fv2.2)
            have s1 := hmv a (by omega)
            have s2 := hmv (a + 1) (by omega)
            have s2' : mvs P1 (aB gr s.lm s.n) (aP gr s.lm s.n) c b (a + 1) = mvs P1 (aB gr s.lm s.n) (aP gr s.lm s.n) c b a + P1 a * (c / aB gr s.lm s.n a * aP gr s.lm s.n (a * 6 + b)) := rfl
            rw [s2'] at s2
            refine f_add (s := mR s R2) (by omega) (by decide) (by omega) (by decide) hP hbb2 k2' fv2.1 (by omega) (by omega) (by omega) (fun R3 k3 o3 => ⟨rfl, ?_⟩)
            have keep : ∀ q A N, q ≠ 81 → q ≠ 72 → q ≠ 6 * (y + 1) + b → Fq R q A N → Fq R3 q A N := fun q A N n1 n2 n3 h => ((h.oth o1 n1).oth o2 n1).same (o3 q (by omega))
            refine ihm (a + 1) R3 (by omega) (fun a' ha' => keep _ _ _ (by omega) (by omega) (by omega) (h75 a' ha')) (fun i hi => keep _ _ _ (by omega) (by omega) (by omega) (hnx i hi)) k3 ?_
            refine hO.tr ((o1.s (Or.inr (by omega))).tr ((o2.s (Or.inr (by omega))).tr (o3.mono (fun q hq => ?_))))
            rcases hq with h | h
            · exact Or.inl (by omega)
            · exact Or.inr (by omega)
      refine v_X10_step_56 ⟨⟨by omega, by show s.n < _; omega⟩, fun q => absurd q (by show ¬ s.n ≤ b; omega), fun _ => f_set0 (s := mR s R) (b := D1 * c) (by omega) (fun R1 k1 o1 => ⟨rfl, ?_⟩)⟩
      exact inner s.n 0 R1 (by omega) (fun a ha => (h75 a ha).oth o1 (by omega)) (fun i hi => (hnx i hi).oth o1 (by omega)) k1 (hO.tr (o1.s (Or.inl (by omega))))
  -- the works
  have l1 : ∀ (d i : Nat) (R : St), i + d = s.n → (∀ j, j < i → Fq R (75 + j) (P0 j) D0) → oths (stS y) s.R R → BlkM g M_X10_step x0 Q 2 [(0, .ref x0), (1, .int (nI y)), (2, .int (nI i))] [] (mR s R) := by
    intro d
    induction d with
    | zero =>
      intro i R hi h75 hO
      have : i = s.n := by omega
      subst this
      refine v_X10_step_2 ⟨⟨by omega, by show s.n < _; omega⟩, fun _ => ⟨hy, f_goes_w (s := mR s R) (w := w) hn (Or.inr rfl) hy w1 hP hw w2 hfv hB1 h75 (fun R2 k2 o2 => ⟨rfl, ?_⟩)⟩, fun q => absurd q (by show ¬ s.n < s.n; omega)⟩
      rw [hE1, hE2] at k2
      refine l3 s.n 0 R2 (by omega) k2 (fun i hi => absurd hi (by omega)) (hO.tr (o2.mono (fun q hq => ?_)))
      rcases hq with h | h | h
      · exact Or.inr (by omega)
      · exact Or.inr (by omega)
      · exact Or.inr (by omega)
    | succ d ih =>
      intro i R hi h75 hO
      have hFi : Fq R (6 * y + i) (P0 i) D0 := (hF i (by omega)).same (hO _ (by unfold stS; omega))
      refine v_X10_step_2 ⟨⟨by omega, by show s.n < _; omega⟩, fun q => absurd q (by show ¬ s.n ≤ i; omega), fun _ => f_copy (s := mR s R) (by omega) (by omega) (by omega) hFi (fun R1 k1 o1 => ⟨rfl, ih (i + 1) R1 (by omega) (fun j hj => ?_) (hO.tr (o1.s (Or.inr (by omega))))⟩)⟩
      by_cases z : j = i
      · subst z; exact k1
      · exact (h75 j (by omega)).oth o1 (by omega)
  exact CtM.of (by decide +kernel) (Nat.le_of_ble_eq_true rfl) (v_X10_step_0 (l1 s.n 0 s.R (by omega) (fun j hj => absurd hj (by omega)) oths.rf))
end M19
