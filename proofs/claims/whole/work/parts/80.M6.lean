/-! the reference: rows as fractions in least terms -/
def Fq (R : St) (r a b : Nat) : Prop := ∃ x e, Rw R r x e ∧ red x e ∧ x * b = a * pw e 168
theorem Fq.low {R : St} {r a b : Nat} (h : Fq R r a b) (hb : 0 < b) : ∃ x e, Rw R r x e ∧ Nat.Coprime x (pw e 168) ∧ pw e 168 ∣ b ∧ x ≤ a ∧ x * b = a * pw e 168 ∧ pw e 168 ≤ b := by
  obtain ⟨x, e, h1, h2, h3⟩ := h
  have hc : Nat.Coprime x (pw e 168) := pw_cop (Nat.le_refl _) h2
  have hd : pw e 168 ∣ b := by
    refine Nat.Coprime.dvd_of_dvd_mul_left hc.symm (n := b) (m := x) ?_
    rw [h3]
    exact Nat.dvd_mul_left _ _
  refine ⟨x, e, h1, hc, hd, ?_, h3, Nat.le_of_dvd hb hd⟩
  obtain ⟨c, hc'⟩ := hd
  have hp := pw_pos (e := e) 168
  have h4 : x * c * pw e 168 = a * pw e 168 := by rw [← h3, hc']; grind
  have h5 := Nat.eq_of_mul_eq_mul_right hp h4
  have hc0 : 0 < c := by
    rcases Nat.eq_zero_or_pos c with z | z
    · rw [z, Nat.mul_zero] at hc'; omega
    · exact z
  have := Nat.le_mul_of_pos_right x hc0
  omega
theorem Fq.same {R R' : St} {r a b : Nat} (h : Fq R r a b) (o : same r R R') : Fq R' r a b := by
  obtain ⟨x, e, h1, h2, h3⟩ := h
  exact ⟨x, e, h1.same o, h2, h3⟩
theorem Fq.oth {R R' : St} {q r a b : Nat} (h : Fq R r a b) (o : oth q R R') (n : r ≠ q) : Fq R' r a b := h.same (o.same n)
theorem Fq.sc {R : St} {r a b k : Nat} (h : Fq R r a b) : Fq R r (a * k) (b * k) := by
  obtain ⟨x, e, h1, h2, h3⟩ := h
  refine ⟨x, e, h1, h2, ?_⟩
  rw [← Nat.mul_assoc, h3]
  grind
theorem Fq.un {R : St} {r a b k : Nat} (h : Fq R r (a * k) (b * k)) (hk : 0 < k) : Fq R r a b := by
  obtain ⟨x, e, h1, h2, h3⟩ := h
  refine ⟨x, e, h1, h2, ?_⟩
  have : x * b * k = a * pw e 168 * k := by
    have h4 : x * b * k = x * (b * k) := by grind
    rw [h4, h3]
    grind
  exact Nat.eq_of_mul_eq_mul_right hk this
theorem Fq.eq {R : St} {r a b a' b' : Nat} (h : Fq R r a b) (hb : 0 < b) (e : a * b' = a' * b) : Fq R r a' b' := by
  obtain ⟨x, e', h1, h2, h3⟩ := h
  refine ⟨x, e', h1, h2, ?_⟩
  have : x * b' * b = a' * pw e' 168 * b := by
    have h4 : x * b' * b = x * b * b' := by grind
    have h5 : a' * pw e' 168 * b = a' * b * pw e' 168 := by grind
    rw [h4, h3, h5, ← e]
    grind
  exact Nat.eq_of_mul_eq_mul_right hb this
theorem Fq.lowT {R : St} {r a b x : Nat} {e : Nat → Nat} (h1 : Rw R r x e) (h2 : red x e) (h3 : x * b = a * pw e 168) : lowT a b x (pw e 168) := ⟨h3, pw_cop (Nat.le_refl _) h2, pw_pos _⟩
section M6
variable {g : xG} {Q : mQ} {s : MV} {x0 : Nat}
theorem f_set0 {r b : Nat} (hr : r < 84) (hp : ∀ R', Fq R' r 0 b → oth r s.R R' → Q none (mR s R')) : CtM g M_X10_set [.ref x0, .int (nI r), .long (lN 0)] x0 s Q :=
  m_set hr (by decide) (fun R' k o => hp R' ⟨0, _, k, fun _ _ h => absurd h (Nat.lt_irrefl 0), by rw [Nat.zero_mul, Nat.zero_mul]⟩ o)
theorem f_set1 {r : Nat} (hr : r < 84) (hp : ∀ R', Fq R' r 1 1 → oth r s.R R' → Q none (mR s R')) : CtM g M_X10_set [.ref x0, .int (nI r), .long (lN 1)] x0 s Q :=
  m_set hr (by decide) (fun R' k o => hp R' ⟨1, _, k, fun _ _ h => absurd h (Nat.lt_irrefl 0), by rw [pw_zero]⟩ o)
theorem f_copy {a b A N : Nat} (ha : a < 84) (hb : b < 84) (hab : a ≠ b) (hA : Fq s.R a A N) (hp : ∀ R', Fq R' b A N → oth b s.R R' → Q none (mR s R')) : CtM g M_X10_copy [.ref x0, .int (nI a), .int (nI b)] x0 s Q :=
  m_copy ha hb hab (fun R' k o => by
    obtain ⟨x, e, h1, h2, h3⟩ := hA
    exact hp R' ⟨x, e, k x e h1, h2, h3⟩ o)
theorem f_part {r A N a b : Nat} (hr : r < 84) (hP : prOK s) (hA : Fq s.R r A N) (hN : 0 < N) (ha : a < 1000000000) (hb : 1 ≤ b ∧ b ≤ 1000) (hx : A * a < 1000000000 ^ 160) (hB : N * b < 1000000000 ^ 160) (hp : ∀ R', Fq R' r (A * a) (N * b) → oth r s.R R' → Q none (mR s R')) : CtM g M_X10_part [.ref x0, .int (nI r), .long (lN a), .int (nI b)] x0 s Q := by
  obtain ⟨x, e, h1, h2, h3, h4, h5, h6⟩ := hA.low hN
  refine m_part hr hP h1 ha hb (Nat.lt_of_le_of_lt (Nat.mul_le_mul_right _ h4) hx) (Nat.lt_of_le_of_lt (Nat.mul_le_mul_right _ h6) hB) (fun R' x' e' k1 k2 k3 o => hp R' ⟨x', e', k1, k3, ?_⟩ o)
  have hpp := pw_pos (e := e) 168
  have h7 : x' * (N * b) * pw e 168 = A * a * pw e' 168 * pw e 168 := by
    have a1 : x' * (N * b) * pw e 168 = x' * (pw e 168 * b) * N := by grind
    have a2 : x * a * pw e' 168 * N = x * N * (a * pw e' 168) := by grind
    rw [a1, k2, a2, h5]
    grind
  exact Nat.eq_of_mul_eq_mul_right hpp h7
theorem f_reduce {r A N x : Nat} {e : Nat → Nat} (hr : r < 84) (hP : prOK s) (hR : Rw s.R r x e) (hE : x * N = A * pw e 168) (hB : pw e 168 < 1000000000 ^ 160) (hp : ∀ R', Fq R' r A N → oth r s.R R' → Q none (mR s R')) : CtM g M_X10_reduce [.ref x0, .int (nI r)] x0 s Q := by
  refine m_reduce hr hP hR hB (fun R' x' e' k1 k2 k3 o => hp R' ⟨x', e', k1, k3, ?_⟩ o)
  have hpp := pw_pos (e := e) 168
  have h7 : x' * N * pw e 168 = A * pw e' 168 * pw e 168 := by
    have a1 : x' * N * pw e 168 = x' * pw e 168 * N := by grind
    have a2 : x * pw e' 168 * N = x * N * pw e' 168 := by grind
    rw [a1, k2, a2, hE]
    grind
  exact Nat.eq_of_mul_eq_mul_right hpp h7
theorem al_one {x A N t D c : Nat} (hD : 0 < D) (h5 : x * N = A * D) (ht : N = D * c * t) : x * c * t = A := by
  have : x * c * t * D = A * D := by rw [← h5, ht]; grind
  exact Nat.eq_of_mul_eq_mul_right hD this
/-- the road to the aligned pair -/
theorem al_pair {xa xb A B N : Nat} {ea eb : Nat → Nat} (hN : 0 < N) (a3 : pw ea 168 ∣ N) (b3 : pw eb 168 ∣ N) (a5 : xa * N = A * pw ea 168) (b5 : xb * N = B * pw eb 168) : ∃ t, 0 < t ∧ N = pw ea 168 * pw (fun k => eb k - ea k) 168 * t ∧ pw ea 168 * pw (fun k => eb k - ea k) 168 = pw eb 168 * pw (fun k => ea k - eb k) 168 ∧ xa * pw (fun k => eb k - ea k) 168 * t = A ∧ xb * pw (fun k => ea k - eb k) 168 * t = B := by
  obtain ⟨t, ht⟩ := mx_dvd (e := ea) (f := eb) 168 (Nat.le_refl _) a3 b3
  have e1 := pw_mx (e := ea) (f := eb)
  have e2 := pw_mx (e := eb) (f := ea)
  have e3 : pw (fun k => ea k + (eb k - ea k)) 168 = pw (fun k => eb k + (ea k - eb k)) 168 := pw_congr (fun i _ => by omega)
  have ht0 : 0 < t := by
    rcases Nat.eq_zero_or_pos t with z | z
    · rw [z, Nat.mul_zero] at ht; omega
    · exact z
  rw [e1] at ht
  rw [e1, e2] at e3
  refine ⟨t, ht0, ht, e3, al_one (pw_pos _) a5 ht, al_one (pw_pos _) b5 (by rw [← e3]; exact ht)⟩
theorem f_align {a b A B N : Nat} (ha : a < 84) (hb : b < 84) (hab : a ≠ b) (hP : prOK s) (hA : Fq s.R a A N) (hB : Fq s.R b B N) (hN : 0 < N) (hA2 : A < 1000000000 ^ 159) (hB2 : B < 1000000000 ^ 159) (hN2 : N < 1000000000 ^ 159)
    (hp : ∀ R' ca cb e t, Rw R' a ca e → Rw R' b cb e → 0 < t → N = pw e 168 * t → ca * t = A → cb * t = B → oths (fun q => q = a ∨ q = b) s.R R' → Q none (mR s R')) : CtM g M_X10_align [.ref x0, .int (nI a), .int (nI b)] x0 s Q := by
  obtain ⟨xa, ea, a1, a2, a3, a4, a5, a6⟩ := hA.low hN
  obtain ⟨xb, eb, b1, b2, b3, b4, b5, b6⟩ := hB.low hN
  obtain ⟨t, ht0, hN3, hmm, hA3, hB3⟩ := al_pair hN a3 b3 a5 b5
  have hBB := BBmono (a := 159) (b := 160) (by decide)
  have la : xa * pw (fun k => eb k - ea k) 168 ≤ A := by rw [← hA3]; exact Nat.le_mul_of_pos_right _ ht0
  have lb : xb * pw (fun k => ea k - eb k) 168 ≤ B := by rw [← hB3]; exact Nat.le_mul_of_pos_right _ ht0
  refine m_align ha hb hab hP a1 b1 (by omega) (by omega) (by omega) (by omega) (fun R' k1 k2 o => hp R' _ _ (fun k => ea k + (eb k - ea k)) t k1 (k2.to (fun i _ => by omega)) ht0 ?_ hA3 hB3 o)
  rw [pw_mx]
  exact hN3
theorem f_add {a b A B N : Nat} (ha : a < 84) (hb : b < 84) (ha2 : a ≠ 72) (hb2 : b ≠ 72) (hP : prOK s) (hA : Fq s.R a A N) (hB : Fq s.R b B N) (hN : 0 < N) (hA2 : A < 1000000000 ^ 159) (hB2 : B < 1000000000 ^ 159) (hN2 : N < 1000000000 ^ 159)
    (hp : ∀ R', Fq R' a (A + B) N → oths (fun q => q = a ∨ q = 72) s.R R' → Q none (mR s R')) : CtM g M_X10_add [.ref x0, .int (nI a), .int (nI b)] x0 s Q := by
  refine CtM.of (by decide +kernel) (Nat.le_of_ble_eq_true rfl) (v_X10_add_0 (f_copy hb (by decide) hb2 hB (fun R1 k1 o1 => ⟨rfl, ?_⟩)))
  refine f_align (s := mR s R1) ha (by decide) ha2 hP (hA.oth o1 ha2) k1 hN hA2 hB2 hN2 (fun R2 ca cb e t j1 j2 ht hNt hca hcb o2 => ⟨rfl, ha, by decide, ?_⟩)
  have la : ca ≤ A := by rw [← hca]; exact Nat.le_mul_of_pos_right _ ht
  have lb : cb ≤ B := by rw [← hcb]; exact Nat.le_mul_of_pos_right _ ht
  have le : pw e 168 ≤ N := by rw [hNt]; exact Nat.le_mul_of_pos_right _ ht
  have hBB := BBmono (a := 159) (b := 160) (by decide)
  have ua : R2.2.1 a ≤ 159 := bv_used j1.1.2.2.2.1 (by rw [j1.1.2.2.2.2]; omega)
  have ub : R2.2.1 72 ≤ 159 := bv_used j2.1.2.2.2.1 (by rw [j2.1.2.2.2.2]; omega)
  have hfin : ∀ R' x' e', Rw R' a x' e' → x' * pw e 168 = (ca + cb) * pw e' 168 → red x' e' → oth a R2 R' → Q none (mR s R') := by
    intro R' x' e' r1 r2 r3 r4
    refine hp R' ⟨x', e', r1, r3, ?_⟩ ((o1.s (Or.inr rfl)).tr (o2.tr (r4.s (Or.inl rfl))))
    rw [hNt, ← Nat.mul_assoc, r2, ← hca, ← hcb]
    grind
  have e1 : (mR (mR s R1) R2).ln a = R2.2.1 a := rfl
  have e2 : (mR (mR s R1) R2).ln 72 = R2.2.1 72 := rfl
  rw [e1, e2]
  refine ⟨⟨by omega, by omega⟩, fun q => ⟨by decide, ?_⟩, fun q => ⟨ha, ?_⟩⟩
  · exact l_madd (s := s) ha ha2 hP R2 rfl rfl q (Nat.le_refl _) (by omega) j1.1.2.2.1 j2.1.2.2.1 j1.1.2.2.2.2 j2.1.2.2.2.2 (fun _ _ => rfl) j1.2 (by omega) hfin (R2.2.1 72) 0 0 R2.1 (by omega) (by omega) (fun _ _ => rfl) (fun _ _ _ => rfl) (fun j hj => absurd hj (by omega)) (by decide) (by show 0 + 0 * _ = 0 + 0; omega)
  · exact l_madd (s := s) ha ha2 hP R2 rfl rfl (Nat.le_refl _) (by omega) (by omega) j1.1.2.2.1 j2.1.2.2.1 j1.1.2.2.2.2 j2.1.2.2.2.2 (fun _ _ => rfl) j1.2 (by omega) hfin (R2.2.1 a) 0 0 R2.1 (by omega) (by omega) (fun _ _ => rfl) (fun _ _ _ => rfl) (fun j hj => absurd hj (by omega)) (by decide) (by show 0 + 0 * _ = 0 + 0; omega)
theorem f_take {a b A B N : Nat} (ha : a < 84) (hb : b < 84) (ha2 : a ≠ 72) (hb2 : b ≠ 72) (hP : prOK s) (hA : Fq s.R a A N) (hB : Fq s.R b B N) (hN : 0 < N) (hA2 : A < 1000000000 ^ 159) (hle : B ≤ A) (hN2 : N < 1000000000 ^ 159)
    (hp : ∀ R', Fq R' a (A - B) N → oths (fun q => q = a ∨ q = 72) s.R R' → Q none (mR s R')) : CtM g M_X10_take [.ref x0, .int (nI a), .int (nI b)] x0 s Q := by
  refine CtM.of (by decide +kernel) (Nat.le_of_ble_eq_true rfl) (v_X10_take_0 (f_copy hb (by decide) hb2 hB (fun R1 k1 o1 => ⟨rfl, ?_⟩)))
  refine f_align (s := mR s R1) ha (by decide) ha2 hP (hA.oth o1 ha2) k1 hN hA2 (by omega) hN2 (fun R2 ca cb e t j1 j2 ht hNt hca hcb o2 => ⟨rfl, ?_⟩)
  have le : pw e 168 ≤ N := by rw [hNt]; exact Nat.le_mul_of_pos_right _ ht
  have hBB := BBmono (a := 159) (b := 160) (by decide)
  have hcc : cb ≤ ca := by
    rw [← hca, ← hcb] at hle
    exact Nat.le_of_mul_le_mul_right hle ht
  have hwu : R2.2.1 72 ≤ R2.2.1 a := bv_used j2.1.2.2.2.1 (by rw [j2.1.2.2.2.2]; exact Nat.lt_of_le_of_lt hcc j1.1.lt)
  have hfin : ∀ R' x' e', Rw R' a x' e' → x' * pw e 168 = (ca - cb) * pw e' 168 → red x' e' → oth a R2 R' → Q none (mR s R') := by
    intro R' x' e' r1 r2 r3 r4
    refine hp R' ⟨x', e', r1, r3, ?_⟩ ((o1.s (Or.inr rfl)).tr (o2.tr (r4.s (Or.inl rfl))))
    rw [hNt, ← Nat.mul_assoc, r2, ← hca, ← hcb, ← Nat.sub_mul]
    grind
  exact l_mtake (s := s) ha ha2 hP R2 rfl rfl hwu j1.1.1 j1.1.2.2.1 j2.1.2.2.1 j1.1.2.2.2.2 j2.1.2.2.2.2 hcc (fun _ _ => rfl) j1.2 (by omega) hfin (R2.2.1 a) 0 0 R2.1 (by omega) (by omega) (fun _ _ => rfl) (fun _ _ _ => rfl) (fun j hj => absurd hj (by omega)) (by decide) (by show 0 + 0 = 0 + 0 * _; omega)
end M6
