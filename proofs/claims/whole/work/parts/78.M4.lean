/-! the reference: numbers in rows: adding and taking -/
def same (q : Nat) (R R' : St) : Prop := R'.2.1 q = R.2.1 q ∧ (∀ i, i < 160 → vw R'.1 q i = vw R.1 q i) ∧ ∀ k, k < 168 → R'.2.2 (168 * q + k) = R.2.2 (168 * q + k)
def oths (S : Nat → Prop) (R R' : St) : Prop := ∀ q, ¬ S q → same q R R'
theorem same.rf {q : Nat} {R : St} : same q R R := ⟨rfl, fun _ _ => rfl, fun _ _ => rfl⟩
theorem same.tr {q : Nat} {R R1 R2 : St} (a : same q R R1) (b : same q R1 R2) : same q R R2 := ⟨b.1.trans a.1, fun i hi => (b.2.1 i hi).trans (a.2.1 i hi), fun i hi => (b.2.2 i hi).trans (a.2.2 i hi)⟩
theorem oth.same {r q : Nat} {R R' : St} (o : oth r R R') (h : q ≠ r) : same q R R' := ⟨o.1 q h, fun i hi => o.2.1 _ (by omega), fun k hk => o.2.2 _ (by omega)⟩
theorem oth.s {r : Nat} {S : Nat → Prop} {R R' : St} (o : oth r R R') (h : S r) : oths S R R' := fun q hq => o.same (fun z => hq (by rw [z]; exact h))
theorem oths.rf {S : Nat → Prop} {R : St} : oths S R R := fun _ _ => same.rf
theorem oths.tr {S : Nat → Prop} {R R1 R2 : St} (a : oths S R R1) (b : oths S R1 R2) : oths S R R2 := fun q hq => (a q hq).tr (b q hq)
theorem oths.mono {S T : Nat → Prop} {R R1 : St} (a : oths S R R1) (h : ∀ q, S q → T q) : oths T R R1 := fun q hq => a q (fun z => hq (h q z))
theorem Rw.same {R R' : St} {q x : Nat} {e : Nat → Nat} (k : Rw R q x e) (o : same q R R') : Rw R' q x e := by
  obtain ⟨a, b⟩ := k
  obtain ⟨o1, o2, o3⟩ := o
  refine ⟨?_, fun k hk => by rw [o3 _ hk]; exact b k hk⟩
  rw [o1]
  exact a.congr o2
theorem pw_mono {e e' : Nat → Nat} : ∀ {n : Nat}, (∀ k, k < n → e k ≤ e' k) → pw e n ≤ pw e' n
  | 0, _ => Nat.le_refl _
  | n + 1, h => Nat.mul_le_mul (pw_mono (fun k hk => h k (by omega))) (Nat.pow_le_pow_right (by have := xpr_b n; omega) (h n (by omega)))
theorem pw_mx {e f : Nat → Nat} : pw (fun k => e k + (f k - e k)) 168 = pw e 168 * pw (fun k => f k - e k) 168 := pw_add 168
theorem mx_dvd {e f : Nat → Nat} {b : Nat} : ∀ n, n ≤ 168 → pw e n ∣ b → pw f n ∣ b → pw (fun k => e k + (f k - e k)) n ∣ b
  | 0, _, _, _ => Nat.one_dvd _
  | n + 1, hn, h1, h2 => by
    have a1 : pw e n ∣ b := Nat.dvd_trans (Nat.dvd_mul_right _ _) h1
    have a2 : pw f n ∣ b := Nat.dvd_trans (Nat.dvd_mul_right _ _) h2
    have a3 := mx_dvd n (by omega) a1 a2
    have a4 : xpr n ^ (e n + (f n - e n)) ∣ b := by
      rcases Nat.le_total (f n) (e n) with z | z
      · rw [show e n + (f n - e n) = e n by omega]
        exact Nat.dvd_trans (Nat.dvd_mul_left _ _) h1
      · rw [show e n + (f n - e n) = f n by omega]
        exact Nat.dvd_trans (Nat.dvd_mul_left _ _) h2
    refine Nat.Coprime.mul_dvd_of_dvd_of_dvd ?_ a3 a4
    exact Nat.Coprime.pow_right _ (pw_cop_tail (by omega) (by omega)).symm
section M4
variable {g : xG} {Q : mQ} {s : MV} {x0 : Nat}
theorem l_align {a b xa xb : Nat} {ea eb : Nat → Nat} (ha : a < 84) (hb : b < 84) (hab : a ≠ b) (hP : prOK s) (R0 : St) (hEa : ∀ k, k < 168 → ea k < 2 ^ 31) (hEb : ∀ k, k < 168 → eb k < 2 ^ 31) (hBa : xa * pw (fun k => eb k - ea k) 168 < 1000000000 ^ 160) (hBb : xb * pw (fun k => ea k - eb k) 168 < 1000000000 ^ 160)
    (hp : ∀ R', Rw R' a (xa * pw (fun k => eb k - ea k) 168) (fun k => ea k + (eb k - ea k)) → Rw R' b (xb * pw (fun k => ea k - eb k) 168) (fun k => eb k + (ea k - eb k)) → oths (fun q => q = a ∨ q = b) R0 R' → Q none (mR s R')) :
    ∀ (m k : Nat) (R : St) (da db : Nat → Nat), k + m = 168 → Rw R a (xa * pw da 168) (fun k => ea k + da k) → Rw R b (xb * pw db 168) (fun k => eb k + db k) → (∀ j, j < k → da j = eb j - ea j ∧ db j = ea j - eb j) → (∀ j, k ≤ j → da j = 0 ∧ db j = 0) → oths (fun q => q = a ∨ q = b) R0 R → BlkM g M_X10_align x0 Q 2 [(0, .ref x0), (1, .int (nI a)), (2, .int (nI b)), (3, .int (nI k))] [] (mR s R) := by
  intro m
  induction m with
  | zero =>
    intro k R da db hk hA hB h1 h2 ho
    have : k = 168 := by omega
    subst this
    refine v_X10_align_2 ⟨⟨by decide, by decide⟩, fun _ => hp R ?_ ?_ ho, fun q => absurd q (by decide)⟩
    · rw [← pw_congr (e := da) (fun i hi => (h1 i hi).1)]
      exact hA.to (fun i hi => by rw [(h1 i hi).1])
    · rw [← pw_congr (e := db) (fun i hi => (h1 i hi).2)]
      exact hB.to (fun i hi => by rw [(h1 i hi).2])
  | succ m ih =>
    intro k R da db hk hA hB h1 h2 ho
    have hpk := xpr_b k
    have hea := hEa k (by omega)
    have heb := hEb k (by omega)
    have inB : ∀ (w : Nat) (R : St) (da db : Nat → Nat), db k + w = ea k - eb k → Rw R a (xa * pw da 168) (fun k => ea k + da k) → Rw R b (xb * pw db 168) (fun k => eb k + db k) → (∀ j, j < k → da j = eb j - ea j ∧ db j = ea j - eb j) → da k = eb k - ea k → (∀ j, k < j → da j = 0 ∧ db j = 0) → oths (fun q => q = a ∨ q = b) R0 R → BlkM g M_X10_align x0 Q 67 [(0, .ref x0), (1, .int (nI a)), (2, .int (nI b)), (3, .int (nI k))] [] (mR s R) := by
      intro w
      induction w with
      | zero =>
        intro R da db hw hA hB h1 hd h2 ho
        have qa : (mR s R).pw (168 * a + k) = ea k + da k := hA.2 k (by omega)
        have qb : (mR s R).pw (168 * b + k) = eb k + db k := hB.2 k (by omega)
        refine v_X10_align_67 ⟨by omega, by omega, ⟨by omega, by omega⟩, fun _ => ih (k + 1) R da db (by omega) hA hB (fun j hj => ?_) (fun j hj => h2 j (by omega)) ho, fun q => absurd q (by omega)⟩
        by_cases z : j = k
        · subst z; exact ⟨hd, by omega⟩
        · exact h1 j (by omega)
      | succ w ihw =>
        intro R da db hw hA hB h1 hd h2 ho
        have qa : (mR s R).pw (168 * a + k) = ea k + da k := hA.2 k (by omega)
        have qb : (mR s R).pw (168 * b + k) = eb k + db k := hB.2 k (by omega)
        have hpr : (mR s R).pr k = xpr k := hP k (by omega)
        refine v_X10_align_67 ⟨by omega, by omega, ⟨by omega, by omega⟩, fun q => absurd q (by omega), fun _ => ⟨by omega, by omega, ?_⟩⟩
        rw [hpr]
        have hup : xb * pw db 168 * xpr k = xb * pw (va_up db k (db k + 1)) 168 := by
          rw [pw_up1 (by omega), Nat.mul_assoc]
        have hle : xb * pw (va_up db k (db k + 1)) 168 ≤ xb * pw (fun k => ea k - eb k) 168 := by
          refine Nat.mul_le_mul_left _ (pw_mono (fun j hj => ?_))
          by_cases z : j = k
          · subst z; rw [up_s]; omega
          · rw [up_n z]
            rcases Nat.lt_or_ge j k with y | y
            · rw [(h1 j y).2]; exact Nat.le_refl _
            · rw [(h2 j (by omega)).2]; exact Nat.zero_le _
        refine m_times (s := mR s R) hb hB (by omega) (by omega) (fun R' k1 o1 => ⟨rfl, by omega, by omega, ?_⟩)
        have hpq : (mR (mR s R) R').pw (168 * b + k) = eb k + db k := k1.2 k (by omega)
        rw [hpq]
        rw [hup] at k1
        refine ihw (R'.1, R'.2.1, va_up R'.2.2 (168 * b + k) (eb k + db k + 1)) da (va_up db k (db k + 1)) (by rw [up_s]; omega) ((hA.oth o1 hab).oth (oth.pow (r := b) (v := eb k + db k + 1) oth.rf (by omega)) hab) ?_ (fun j hj => ?_) hd (fun j hj => ?_) (ho.tr (oth.s (r := b) (o1.pow (by omega)) (Or.inr rfl)))
        · refine (Rw.pow (lb := R'.1) (ln := R'.2.1) (p := R'.2.2) k1 (by omega)).to (fun i hi => ?_)
          by_cases z : i = k
          · subst z; rw [up_s, up_s]; omega
          · rw [up_n z, up_n z]
        · rw [up_n (by omega)]; exact h1 j hj
        · rw [up_n (by omega)]; exact h2 j hj
    have inA : ∀ (w : Nat) (R : St) (da db : Nat → Nat), da k + w = eb k - ea k → Rw R a (xa * pw da 168) (fun k => ea k + da k) → Rw R b (xb * pw db 168) (fun k => eb k + db k) → (∀ j, j < k → da j = eb j - ea j ∧ db j = ea j - eb j) → db k = 0 → (∀ j, k < j → da j = 0 ∧ db j = 0) → oths (fun q => q = a ∨ q = b) R0 R → BlkM g M_X10_align x0 Q 9 [(0, .ref x0), (1, .int (nI a)), (2, .int (nI b)), (3, .int (nI k))] [] (mR s R) := by
      intro w
      induction w with
      | zero =>
        intro R da db hw hA hB h1 hd h2 ho
        have qa : (mR s R).pw (168 * a + k) = ea k + da k := hA.2 k (by omega)
        have qb : (mR s R).pw (168 * b + k) = eb k + db k := hB.2 k (by omega)
        exact v_X10_align_9 ⟨by omega, by omega, ⟨by omega, by omega⟩, fun _ => inB (ea k - eb k) R da db (by omega) hA hB h1 (by omega) h2 ho, fun q => absurd q (by omega)⟩
      | succ w ihw =>
        intro R da db hw hA hB h1 hd h2 ho
        have qa : (mR s R).pw (168 * a + k) = ea k + da k := hA.2 k (by omega)
        have qb : (mR s R).pw (168 * b + k) = eb k + db k := hB.2 k (by omega)
        have hpr : (mR s R).pr k = xpr k := hP k (by omega)
        refine v_X10_align_9 ⟨by omega, by omega, ⟨by omega, by omega⟩, fun q => absurd q (by omega), fun _ => ⟨by omega, by omega, ?_⟩⟩
        rw [hpr]
        have hup : xa * pw da 168 * xpr k = xa * pw (va_up da k (da k + 1)) 168 := by
          rw [pw_up1 (by omega), Nat.mul_assoc]
        have hle : xa * pw (va_up da k (da k + 1)) 168 ≤ xa * pw (fun k => eb k - ea k) 168 := by
          refine Nat.mul_le_mul_left _ (pw_mono (fun j hj => ?_))
          by_cases z : j = k
          · subst z; rw [up_s]; omega
          · rw [up_n z]
            rcases Nat.lt_or_ge j k with y | y
            · rw [(h1 j y).1]; exact Nat.le_refl _
            · rw [(h2 j (by omega)).1]; exact Nat.zero_le _
        refine m_times (s := mR s R) ha hA (by omega) (by omega) (fun R' k1 o1 => ⟨rfl, by omega, by omega, ?_⟩)
        have hpq : (mR (mR s R) R').pw (168 * a + k) = ea k + da k := k1.2 k (by omega)
        rw [hpq]
        rw [hup] at k1
        refine ihw (R'.1, R'.2.1, va_up R'.2.2 (168 * a + k) (ea k + da k + 1)) (va_up da k (da k + 1)) db (by rw [up_s]; omega) ?_ ((hB.oth o1 (Ne.symm hab)).oth (oth.pow (r := a) (v := ea k + da k + 1) oth.rf (by omega)) (Ne.symm hab)) (fun j hj => ?_) hd (fun j hj => ?_) (ho.tr (oth.s (r := a) (o1.pow (by omega)) (Or.inl rfl)))
        · refine (Rw.pow (lb := R'.1) (ln := R'.2.1) (p := R'.2.2) k1 (by omega)).to (fun i hi => ?_)
          by_cases z : i = k
          · subst z; rw [up_s, up_s]; omega
          · rw [up_n z, up_n z]
        · rw [up_n (by omega)]; exact h1 j hj
        · rw [up_n (by omega)]; exact h2 j hj
    exact v_X10_align_2 ⟨⟨by omega, by decide⟩, fun q => absurd q (by omega), fun _ => inA (eb k - ea k) R da db (by rw [(h2 k (Nat.le_refl _)).1]; omega) hA hB h1 (h2 k (Nat.le_refl _)).2 (fun j hj => h2 j (by omega)) ho⟩
theorem m_align {a b xa xb : Nat} {ea eb : Nat → Nat} (ha : a < 84) (hb : b < 84) (hab : a ≠ b) (hP : prOK s) (hA : Rw s.R a xa ea) (hB : Rw s.R b xb eb) (hEa : pw ea 168 < 1000000000 ^ 160) (hEb : pw eb 168 < 1000000000 ^ 160) (hBa : xa * pw (fun k => eb k - ea k) 168 < 1000000000 ^ 160) (hBb : xb * pw (fun k => ea k - eb k) 168 < 1000000000 ^ 160)
    (hp : ∀ R', Rw R' a (xa * pw (fun k => eb k - ea k) 168) (fun k => ea k + (eb k - ea k)) → Rw R' b (xb * pw (fun k => ea k - eb k) 168) (fun k => eb k + (ea k - eb k)) → oths (fun q => q = a ∨ q = b) s.R R' → Q none (mR s R')) : CtM g M_X10_align [.ref x0, .int (nI a), .int (nI b)] x0 s Q :=
  CtM.of (by decide +kernel) (Nat.le_of_ble_eq_true rfl) (v_X10_align_0 (l_align (s := s) ha hb hab hP s.R (pwB hEa) (pwB hEb) hBa hBb hp 168 0 s.R (fun _ => 0) (fun _ => 0) (by decide) (by rw [pw_zero, Nat.mul_one]; exact hA) (by rw [pw_zero, Nat.mul_one]; exact hB) (fun j hj => absurd hj (by omega)) (fun _ _ => ⟨rfl, rfl⟩) oths.rf))
end M4
