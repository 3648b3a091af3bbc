/-! the reference: calls about what is foretold -/
def Gq (R : St) (r a b : Nat) : Prop := ∃ x e, Rw R r x e ∧ pw e 168 ∣ b ∧ x * b = a * pw e 168
theorem Fq.g {R : St} {r a b : Nat} (h : Fq R r a b) (hb : 0 < b) : Gq R r a b := by
  obtain ⟨x, e, h1, h2, h3, h4, h5, h6⟩ := h.low hb
  exact ⟨x, e, h1, h3, h5⟩
theorem Gq.same {R R' : St} {r a b : Nat} (h : Gq R r a b) (o : same r R R') : Gq R' r a b := by
  obtain ⟨x, e, h1, h2, h3⟩ := h
  exact ⟨x, e, h1.same o, h2, h3⟩
theorem cmpN_mul {a b t : Nat} (ht : 0 < t) : cmpN (a * t) (b * t) = cmpN a b := by
  unfold cmpN
  have h1 : a * t < b * t ↔ a < b := Nat.mul_lt_mul_right ht
  have h2 : a * t = b * t ↔ a = b := ⟨fun h => Nat.eq_of_mul_eq_mul_right ht h, fun h => by rw [h]⟩
  by_cases q : a < b
  · rw [if_pos (h1.mpr q), if_pos q]
  · rw [if_neg (fun z => q (h1.mp z)), if_neg q]
    by_cases k : a = b
    · rw [if_pos (h2.mpr k), if_pos k]
    · rw [if_neg (fun z => k (h2.mp z)), if_neg k]
theorem cmpN_0 {a b : Nat} : cmpN a b = 0 ↔ a = b := by
  unfold cmpN
  by_cases q : a < b
  · rw [if_pos q]
    exact ⟨fun h => absurd h (by decide), fun h => by omega⟩
  · rw [if_neg q]
    by_cases k : a = b
    · rw [if_pos k]; exact ⟨fun _ => k, fun _ => rfl⟩
    · rw [if_neg k]; exact ⟨fun h => absurd h (by decide), fun h => absurd h k⟩
theorem cmpN_lt {a b : Nat} : cmpN a b < 0 ↔ a < b := by
  unfold cmpN
  by_cases q : a < b
  · rw [if_pos q]
    exact ⟨fun _ => q, fun _ => by decide⟩
  · rw [if_neg q]
    by_cases k : a = b
    · rw [if_pos k]; exact ⟨fun h => absurd h (by decide), fun h => absurd h q⟩
    · rw [if_neg k]; exact ⟨fun h => absurd h (by decide), fun h => absurd h q⟩
section M21
variable {g : xG} {Q : mQ} {P : pQ} {s : MV} {x0 : Nat} {n len lm ft : Nat} {mk : Nat → Option Nat} {kd tx A Bs : Nat → Nat} {R : Rl} {wk ev : Tr} {w : Nat → Int}
theorem g_align {a b A B N : Nat} (ha : a < 84) (hb : b < 84) (hab : a ≠ b) (hP : prOK s) (hA : Gq s.R a A N) (hB : Gq s.R b B N) (hN : 0 < N) (hA2 : A < 1000000000 ^ 159) (hB2 : B < 1000000000 ^ 159) (hN2 : N < 1000000000 ^ 159)
    (hp : ∀ R' ca cb e t, Rw R' a ca e → Rw R' b cb e → 0 < t → N = pw e 168 * t → ca * t = A → cb * t = B → oths (fun q => q = a ∨ q = b) s.R R' → Q none (mR s R')) : CtM g M_X10_align [.ref x0, .int (nI a), .int (nI b)] x0 s Q := by
  obtain ⟨xa, ea, a1, a3, a5⟩ := hA
  obtain ⟨xb, eb, b1, b3, b5⟩ := hB
  have a6 := Nat.le_of_dvd hN a3
  have b6 := Nat.le_of_dvd hN b3
  obtain ⟨t, ht0, hN3, hmm, hA3, hB3⟩ := al_pair hN a3 b3 a5 b5
  have hBB := BBmono (a := 159) (b := 160) (by decide)
  have la : xa * pw (fun k => eb k - ea k) 168 ≤ A := by rw [← hA3]; exact Nat.le_mul_of_pos_right _ ht0
  have lb : xb * pw (fun k => ea k - eb k) 168 ≤ B := by rw [← hB3]; exact Nat.le_mul_of_pos_right _ ht0
  refine m_align ha hb hab hP a1 b1 (by omega) (by omega) (by omega) (by omega) (fun R' k1 k2 o => hp R' _ _ (fun k => ea k + (eb k - ea k)) t k1 (k2.to (fun i _ => by omega)) ht0 ?_ hA3 hB3 o)
  rw [pw_mx]
  exact hN3
theorem g_copy {a b A N : Nat} (ha : a < 84) (hb : b < 84) (hab : a ≠ b) (hA : Gq s.R a A N) (hp : ∀ R', Gq R' b A N → oth b s.R R' → Q none (mR s R')) : CtM g M_X10_copy [.ref x0, .int (nI a), .int (nI b)] x0 s Q :=
  m_copy ha hb hab (fun R' k o => by
    obtain ⟨x, e, h1, h2, h3⟩ := hA
    exact hp R' ⟨x, e, k x e h1, h2, h3⟩ o)
theorem g_take {a b A B N : Nat} (ha : a < 84) (hb : b < 84) (ha2 : a ≠ 72) (hb2 : b ≠ 72) (hP : prOK s) (hA : Gq s.R a A N) (hB : Gq s.R b B N) (hN : 0 < N) (hA2 : A < 1000000000 ^ 159) (hle : B ≤ A) (hN2 : N < 1000000000 ^ 159)
    (hp : ∀ R', Fq R' a (A - B) N → oths (fun q => q = a ∨ q = 72) s.R R' → Q none (mR s R')) : CtM g M_X10_take [.ref x0, .int (nI a), .int (nI b)] x0 s Q := by
  refine CtM.of (by decide +kernel) (Nat.le_of_ble_eq_true rfl) (v_X10_take_0 (g_copy hb (by decide) hb2 hB (fun R1 k1 o1 => ⟨rfl, ?_⟩)))
  refine g_align (s := mR s R1) ha (by decide) ha2 hP (hA.same (o1.same ha2)) k1 hN hA2 (by omega) hN2 (fun R2 ca cb e t j1 j2 ht hNt hca hcb o2 => ⟨rfl, ?_⟩)
  have le : pw e 168 ≤ N := by rw [hNt]; exact Nat.le_mul_of_pos_right _ ht
  have hBB := BBmono (a := 159) (b := 160) (by decide)
  have hcc : cb ≤ ca := by
    rw [← hca, ← hcb] at hle
    exact Nat.le_of_mul_le_mul_right hle ht
  have hwu : R2.2.1 72 ≤ R2.2.1 a := bv_used j2.1.2.2.2.1 (by rw [j2.1.2.2.2.2]; exact Nat.lt_of_le_of_lt hcc j1.1.lt)
  have hfin : ∀ R' x' e', Rw R' a x' e' → x' * pw e 168 = (ca - cb) * pw e' 168 → red x' e' → oth a R2 R' → Q none (mR s R') := by
    intro R' x' e' r1 r2 r3 r4
    refine hp R' ⟨x', e', r1, r3, ?_⟩ ((o1.s (Or.inr rfl)).tr (o2.tr (r4.s (Or.inl rfl))))
    rw [hNt, ← Nat.mul_assoc, r2, ← hca, ← hcb, ← Nat.sub_mul]
    grind
  exact l_mtake (s := s) ha ha2 hP R2 rfl rfl hwu j1.1.1 j1.1.2.2.1 j2.1.2.2.1 j1.1.2.2.2.2 j2.1.2.2.2.2 hcc (fun _ _ => rfl) j1.2 (by omega) hfin (R2.2.1 a) 0 0 R2.1 (by omega) (by omega) (fun _ _ => rfl) (fun _ _ _ => rfl) (fun j hj => absurd hj (by omega)) (by decide) (by show 0 + 0 = 0 + 0 * _; omega)
theorem f_partOf {r A' N : Nat} {p : Int32} (hr : r < 84) (hr2 : r ≠ 73) (hP : prOK s) (hF : Fq s.R r A' N) (hN : 0 < N) (hN2 : N < 1000000000 ^ 160) (hp : ∀ R' u l, lowT A' N u l → oth 73 s.R R' → Q (some (.long (lN (dgt u l p)))) (mR s R')) : CtM g M_X10_partOf [.ref x0, .int (nI r), .int p] x0 s Q := by
  obtain ⟨x, e, h1, h2, h3⟩ := hF
  have hl := Fq.lowT h1 h2 h3
  have hle := hl.le hN
  exact m_partOf hr hr2 hP h1 (by omega) (fun R' o => hp R' x (pw e 168) hl o)
theorem bnd {y D : Nat} (hy : y < 12) (h : D ≤ Kb y) : D * 6000000 < 1000000000 ^ 112 := Nat.lt_of_le_of_lt (Nat.mul_le_mul_right _ h) (Kb_b y hy)
theorem fa_fv (hI : ssI n mk kd tx len R lm ft A Bs wk ev w) {y : Nat} (hy : y < 12) : fv n (fa n mk R lm A Bs wk ev y).1 (fa n mk R lm A Bs wk ev y).2 ∧ (fa n mk R lm A Bs wk ev y).2 * 6000000 < 1000000000 ^ 112 := by
  have h := fcs_ok (P := aP (agr mk R) lm n) (S := aB (agr mk R) lm n) hI.1 hI.2.2.2.2.2.2.2.1 hI.2.2.2.2.2.2.2.2.1 hI.2.2.2.2.2.2.2.2.2.1 (aMov hI.1.2) y hy
  exact ⟨h.1, bnd hy h.2⟩
theorem r_at {a b x : Int32} (hI : ssI n mk kd tx len R lm ft A Bs wk ev w) (hX : Rel s n mk kd tx len R lm ft A Bs wk ev w)
    (hp1 : ∀ i y, i < n → y < 12 → a = nI i → b = nI y → (∀ z, z ≤ y → ¬ lng n (fa n mk R lm A Bs wk ev z).1 (fa n mk R lm A Bs wk ev z).2) → ∀ s' u l, s'.cd = 0 → Rel s' n mk kd tx len R lm ft A Bs wk ev w → lowT ((fa n mk R lm A Bs wk ev y).1 i) (fa n mk R lm A Bs wk ev y).2 u l → Q (some (.long (lN (dgt u l x)))) s')
    (hp2 : ∀ i y, i < n → y < 12 → a = nI i → b = nI y → (∃ z, z ≤ y ∧ lng n (fa n mk R lm A Bs wk ev z).1 (fa n mk R lm A Bs wk ev z).2) → ∀ s', s'.cd = 0 → Rel s' n mk kd tx len R lm ft A Bs wk ev w → Q (some (.long (-1))) s')
    (hp3 : ∀ i, i < n → a = nI i → (∀ y, y < 12 → ¬ b = nI y) → ∀ s', s'.cd = 0 → Rel s' n mk kd tx len R lm ft A Bs wk ev w → Q (some (.long (-1))) s')
    (hp0 : (∀ i, i < n → ¬ a = nI i) → ∀ s', s'.cd = 1 → Rel s' n mk kd tx len R lm ft A Bs wk ev w → Q (some (.long (lN 0))) s') : CtM g M_X10_at [.ref x0, .int a, .int b, .int x] x0 s Q := by
  have hn : s.n = n := hX.1
  subst hn
  have h6 := hX.2.1.1
  refine CtM.of (by decide +kernel) (Nat.le_of_ble_eq_true rfl) (v_X10_at_0 (m_isState h6 (fun i hi ea => ⟨1, rfl, by decide, (fun z => absurd z (by decide)), fun _ => ?_⟩) (fun z => ⟨0, rfl, by decide, fun _ => hp0 z _ rfl hX.cd, fun q => absurd rfl q⟩)))
  refine m_isForetold (s := (MV.u_cd s 0)) hI hX.cd (fun y hy eb hs s' hX' hF hcd => ⟨1, rfl, by decide, (fun z => absurd z (by decide)), fun _ => ?_⟩) (fun y hy eb hl s' hX' hcd => ⟨0, rfl, by decide, fun _ => hp2 i y hi hy ea eb hl s' hcd hX', fun q => absurd rfl q⟩) (fun hno => ⟨0, rfl, by decide, fun _ => hp3 i hi ea hno _ rfl hX.cd, fun q => absurd rfl q⟩)
  obtain ⟨v1, v2⟩ := fa_fv hI hy
  have hBB := BBmono (a := 112) (b := 160) (by decide)
  have e1 : nI 6 * b + a = nI (6 * y + i) := by rw [ea, eb, pk_mul, nI_add]
  rw [e1]
  refine f_partOf (by omega) (by omega) hX'.2.2.2.2.2.2.2.2.2.1 (hF i hi) v1.1 (by omega) (fun R' u l hl o => ⟨_, rfl, hp1 i y hi hy ea eb hs _ u l hcd (hX'.rows (o.s (by omega))) hl⟩)
theorem f_together {y f N : Nat} {P : Nat → Nat} (hn : 2 ≤ s.n ∧ s.n ≤ 6) (hy : y < 12) (hf : f ≤ s.n) (hP : prOK s) (hF : ∀ i, i < s.n → Fq s.R (6 * y + i) (P i) N) (hv : fv s.n P N) (hB : N * 6000000 < 1000000000 ^ 112) (hp : ∀ R', Fq R' 82 (sm P s.n - sm P f) N → oths (fun q => q = 82 ∨ q = 72) s.R R' → Q none (mR s R')) : CtM g M_X10_together [.ref x0, .int (nI y), .int (nI f)] x0 s Q := by
  have hBB := BBmono (a := 112) (b := 159) (by decide)
  have main : ∀ (d i : Nat) (S : St), i + d = s.n → f ≤ i → Fq S 82 (sm P i - sm P f) N → oths (fun q => q = 82 ∨ q = 72) s.R S → BlkM g M_X10_together x0 Q 9 [(0, .ref x0), (1, .int (nI y)), (3, .int (nI i))] [] (mR s S) := by
    intro d
    induction d with
    | zero =>
      intro i S hi hfi hS hO
      have : i = s.n := by omega
      subst this
      exact v_X10_together_9 ⟨⟨by omega, by show s.n < _; omega⟩, fun _ => hp S hS hO, fun z => absurd z (by show ¬ s.n < s.n; omega)⟩
    | succ d ih =>
      intro i S hi hfi hS hO
      have h1 := sm_mono (p := P) (n := f) (m := i) hfi
      have h2 := sm_mono (p := P) (n := i + 1) (m := s.n) (by omega)
      have h3 : sm P (i + 1) = sm P i + P i := rfl
      have h4 := hv.2
      refine v_X10_together_9 ⟨⟨by omega, by show s.n < _; omega⟩, fun z => absurd z (by show ¬ s.n ≤ i; omega), fun _ => f_add (s := mR s S) (by decide) (by omega) (by decide) (by omega) hP hS ((hF i (by omega)).same (hO _ (by omega))) hv.1 (by omega) (by omega) (by omega) (fun S' k o => ⟨rfl, ih (i + 1) S' (by omega) (by omega) ?_ (hO.tr o)⟩)⟩
      rw [h3, show sm P i + P i - sm P f = sm P i - sm P f + P i by omega]
      exact k
  refine CtM.of (by decide +kernel) (Nat.le_of_ble_eq_true rfl) (v_X10_together_0 (f_set0 (b := N) (by decide) (fun S k o => ⟨rfl, main (s.n - f) f S (by omega) (Nat.le_refl _) ?_ (o.s (Or.inl rfl))⟩)))
  rw [Nat.sub_self]
  exact k
theorem r_sums {a : Int32} (hI : ssI n mk kd tx len R lm ft A Bs wk ev w) (hX : Rel s n mk kd tx len R lm ft A Bs wk ev w)
    (hp1 : ∀ y, y < 12 → a = nI y → (∀ z, z ≤ y → ¬ lng n (fa n mk R lm A Bs wk ev z).1 (fa n mk R lm A Bs wk ev z).2) → ∀ s', Rel s' n mk kd tx len R lm ft A Bs wk ev w → Q (some (.int (nI (if sm (fa n mk R lm A Bs wk ev y).1 n = (fa n mk R lm A Bs wk ev y).2 then 1 else 0)))) s')
    (hp2 : ∀ y, y < 12 → a = nI y → (∃ z, z ≤ y ∧ lng n (fa n mk R lm A Bs wk ev z).1 (fa n mk R lm A Bs wk ev z).2) → ∀ s', Rel s' n mk kd tx len R lm ft A Bs wk ev w → Q (some (.int (nI 0))) s')
    (hp0 : (∀ y, y < 12 → ¬ a = nI y) → ∀ s', Rel s' n mk kd tx len R lm ft A Bs wk ev w → Q (some (.int (nI 0))) s') : CtM g M_X10_sums [.ref x0, .int a] x0 s Q := by
  refine CtM.of (by decide +kernel) (Nat.le_of_ble_eq_true rfl) (v_X10_sums_0 (m_isForetold (s := (MV.u_cd s 0)) hI hX.cd (fun y hy ea hs s' hX' hF hcd => ⟨1, rfl, by decide, fun _ => ?_, (fun z => absurd z (by decide))⟩) (fun y hy ea hl s' hX' hcd => ⟨0, rfl, by decide, fun q => absurd rfl q, fun _ => hp2 y hy ea hl s' hX'⟩) (fun hno => ⟨0, rfl, by decide, fun q => absurd rfl q, fun _ => hp0 hno _ hX.cd⟩)))
  obtain ⟨v1, v2⟩ := fa_fv hI hy
  have hn' : s'.n = n := hX'.1
  subst hn'
  have h6 := hX'.2.1.1
  have hP := hX'.2.2.2.2.2.2.2.2.2.1
  have hBB := BBmono (a := 112) (b := 160) (by decide)
  rw [ea]
  refine f_together h6 hy (Nat.zero_le _) hP hF v1 v2 (fun S k o => ⟨rfl, ?_⟩)
  obtain ⟨x, e, k1, k2, k3⟩ := k
  have hl := Fq.lowT k1 k2 k3
  have hle := hl.le v1.1
  refine m_below (s := mR s' S) (by decide) (by decide) (by decide) hP k1 (by omega) (fun S2 j o2 => ⟨rfl, m_compare (s := mR s' S2) (by decide) (by decide) (k1.oth o2 (by decide)) j ⟨_, rfl, fun z => ?_, fun z => ?_⟩⟩)
  all_goals
    have hX2 : Rel (mR s' S2) s'.n mk kd tx len R lm ft A Bs wk ev w := hX'.rows ((o.mono (fun q hq => by omega)).tr (o2.s (by decide)))
    have fin := hp1 y hy ea hs _ hX2
    rw [show sm (fa s'.n mk R lm A Bs wk ev y).1 s'.n - sm (fa s'.n mk R lm A Bs wk ev y).1 0 = sm (fa s'.n mk R lm A Bs wk ev y).1 s'.n from rfl] at k3
    rw [cmpN_0] at z
  · rw [if_neg ?_] at fin
    · exact fin
    · intro h
      rw [h] at k3
      refine z (Nat.eq_of_mul_eq_mul_right v1.1 ?_)
      rw [k3, Nat.mul_comm]
  · rw [if_pos ?_] at fin
    · exact fin
    · rw [← z, Nat.mul_comm] at k3
      have hx0 : 0 < x := by rw [z]; exact pw_pos _
      exact (Nat.eq_of_mul_eq_mul_right hx0 k3).symm
theorem r_target {a : Int32} {xa xb : Int64} (hI : ssI n mk kd tx len R lm ft A Bs wk ev w) (hX : Rel s n mk kd tx len R lm ft A Bs wk ev w)
    (hp1 : ∀ i u v, i < n → u ≤ v → 0 < v → v ≤ 1000 → a = nI i → xa = lN u → xb = lN v → ∀ s' y, y < 12 → (∀ z, z ≤ y → ¬ lng n (fa n mk R lm A Bs wk ev z).1 (fa n mk R lm A Bs wk ev z).2) → (∀ z, z < y → ¬ (fa n mk R lm A Bs wk ev z).2 * u ≤ (sm (fa n mk R lm A Bs wk ev z).1 n - sm (fa n mk R lm A Bs wk ev z).1 i) * v) → (fa n mk R lm A Bs wk ev y).2 * u ≤ (sm (fa n mk R lm A Bs wk ev y).1 n - sm (fa n mk R lm A Bs wk ev y).1 i) * v → Rel s' n mk kd tx len R lm ft A Bs wk ev w → Q (some (.int (nI y))) s')
    (hp2 : ∀ i u v, i < n → u ≤ v → 0 < v → v ≤ 1000 → a = nI i → xa = lN u → xb = lN v → ∀ s' y, y ≤ 12 → (y = 12 ∨ ∃ z, z ≤ y ∧ lng n (fa n mk R lm A Bs wk ev z).1 (fa n mk R lm A Bs wk ev z).2) → (∀ z, z < y → (¬ lng n (fa n mk R lm A Bs wk ev z).1 (fa n mk R lm A Bs wk ev z).2) ∧ ¬ (fa n mk R lm A Bs wk ev z).2 * u ≤ (sm (fa n mk R lm A Bs wk ev z).1 n - sm (fa n mk R lm A Bs wk ev z).1 i) * v) → Rel s' n mk kd tx len R lm ft A Bs wk ev w → Q (some (.int (-1))) s')
    (hp0 : (∀ i u v, i < n → u ≤ v → 0 < v → v ≤ 1000 → a = nI i → xa = lN u → ¬ xb = lN v) → ∀ s', Rel s' n mk kd tx len R lm ft A Bs wk ev w → Q (some (.int (-1))) s') : CtM g M_X10_target [.ref x0, .int a, .long xa, .long xb] x0 s Q := by
  have h6 := hX.2.1.1
  have hn : s.n = n := hX.1
  refine CtM.of (by decide +kernel) (Nat.le_of_ble_eq_true rfl) (v_X10_target_0 (m_isState (s := (MV.u_cd s 0)) h6 (fun i hi ea => ⟨1, rfl, by decide, (fun z => absurd z (by decide)), fun _ => m_isFraction (fun u v h1 h2 h3 e1 e2 => ⟨1, rfl, by decide, fun _ => ?_, (fun z => absurd z (by decide))⟩) (fun z => ⟨0, rfl, by decide, fun q => absurd rfl q, fun _ => hp0 (fun i u v _ h1 h2 h3 _ e1 => z u v h1 h2 h3 e1) _ hX.cd⟩)⟩) (fun z => ⟨0, rfl, by decide, fun _ => hp0 (fun i u v hi _ _ _ ea => absurd ea (z i (by show i < s.n; omega))) _ hX.cd, fun q => absurd rfl q⟩)))
  replace hi : i < n := by rw [← hn]; exact hi
  rw [ea, e1, e2]
  have main : ∀ (d y : Nat) (s' : MV), y + d = 12 → Rel s' n mk kd tx len R lm ft A Bs wk ev w → (∀ z, z < y → (¬ lng n (fa n mk R lm A Bs wk ev z).1 (fa n mk R lm A Bs wk ev z).2) ∧ ¬ (fa n mk R lm A Bs wk ev z).2 * u ≤ (sm (fa n mk R lm A Bs wk ev z).1 n - sm (fa n mk R lm A Bs wk ev z).1 i) * v) → BlkM g M_X10_target x0 Q 27 [(0, .ref x0), (1, .int (nI i)), (2, .long (lN u)), (4, .long (lN v)), (6, .int (nI y))] [] s' := by
    intro d
    induction d with
    | zero =>
      intro y s' hd hX' hno
      have : y = 12 := by omega
      subst this
      exact v_X10_target_27 ⟨⟨by decide, by decide⟩, fun _ => hp2 i u v hi h1 h2 h3 ea e1 e2 s' 12 (Nat.le_refl _) (Or.inl rfl) hno hX', fun z => absurd z (by decide)⟩
    | succ d ih =>
      intro y s' hd hX' hno
      refine v_X10_target_27 ⟨⟨by omega, by decide⟩, fun z => absurd z (by omega), fun _ => m_isForetold hI hX' (fun y' hy' e hs s2 hX2 hF hcd => ⟨1, rfl, by decide, fun _ => ?_, fun z => absurd z (by decide)⟩) (fun y' hy' e hl s2 hX2 hcd => ⟨0, rfl, by decide, fun q => absurd rfl q, fun _ => ?_⟩) (fun hz => absurd rfl (hz y (by omega)))⟩
      · have ey : y' = y := ((nI_eq (by omega) (by omega)).mp e).symm
        subst ey
        obtain ⟨v1, v2⟩ := fa_fv hI hy'
        have hn2 : s2.n = n := hX2.1
        have hP := hX2.2.2.2.2.2.2.2.2.2.1
        have hBB := BBmono (a := 112) (b := 160) (by decide)
        refine f_together (s := s2) hX2.2.1.1 hy' (by omega) hP (by rw [hn2]; exact hF) (by rw [hn2]; exact v1) v2 (fun S k o => ⟨rfl, ?_⟩)
        rw [hn2] at k
        obtain ⟨x, e', k1, k2, k3⟩ := k
        have hl := Fq.lowT k1 k2 k3
        have hle := hl.le v1.1
        have hsm : sm (fa n mk R lm A Bs wk ev y').1 n - sm (fa n mk R lm A Bs wk ev y').1 i ≤ 6 * (fa n mk R lm A Bs wk ev y').2 := by
          have := v1.2
          omega
        have hxv : x * v ≤ 6 * (fa n mk R lm A Bs wk ev y').2 * 1000 := Nat.mul_le_mul (by omega) h3
        have hpu : pw e' 168 * u ≤ (fa n mk R lm A Bs wk ev y').2 * 1000 := Nat.mul_le_mul hle.1 (by omega)
        have hppos := pw_pos (e := e') 168
        have key : pw e' 168 * u ≤ x * v ↔ (fa n mk R lm A Bs wk ev y').2 * u ≤ (sm (fa n mk R lm A Bs wk ev y').1 n - sm (fa n mk R lm A Bs wk ev y').1 i) * v := by
          constructor
          · intro h
            refine Nat.le_of_mul_le_mul_right ?_ hppos
            have h4 := Nat.mul_le_mul_right (fa n mk R lm A Bs wk ev y').2 h
            have e5 : x * v * (fa n mk R lm A Bs wk ev y').2 = x * (fa n mk R lm A Bs wk ev y').2 * v := by grind
            rw [e5, k3] at h4
            have e6 : (sm (fa n mk R lm A Bs wk ev y').1 n - sm (fa n mk R lm A Bs wk ev y').1 i) * pw e' 168 * v = (sm (fa n mk R lm A Bs wk ev y').1 n - sm (fa n mk R lm A Bs wk ev y').1 i) * v * pw e' 168 := by grind
            have e7 : pw e' 168 * u * (fa n mk R lm A Bs wk ev y').2 = (fa n mk R lm A Bs wk ev y').2 * u * pw e' 168 := by grind
            rw [e6, e7] at h4
            exact h4
          · intro h
            refine Nat.le_of_mul_le_mul_right ?_ v1.1
            have h4 := Nat.mul_le_mul_right (pw e' 168) h
            have e5 : x * v * (fa n mk R lm A Bs wk ev y').2 = x * (fa n mk R lm A Bs wk ev y').2 * v := by grind
            rw [e5, k3]
            have e6 : (sm (fa n mk R lm A Bs wk ev y').1 n - sm (fa n mk R lm A Bs wk ev y').1 i) * pw e' 168 * v = (sm (fa n mk R lm A Bs wk ev y').1 n - sm (fa n mk R lm A Bs wk ev y').1 i) * v * pw e' 168 := by grind
            have e7 : pw e' 168 * u * (fa n mk R lm A Bs wk ev y').2 = (fa n mk R lm A Bs wk ev y').2 * u * pw e' 168 := by grind
            rw [e6, e7]
            exact h4
        refine m_below (s := mR s2 S) (by decide) (by decide) (by decide) hP k1 (by omega) (fun S2 j2 o2 => ⟨rfl, ?_⟩)
        refine m_times (s := mR s2 S2) (by decide) (k1.oth o2 (by decide)) (by omega) (by omega) (fun S3 j3 o3 => ⟨rfl, fun z => ?_, fun z => ?_⟩)
        · have hu0 : 0 < u := by
            rcases Nat.eq_zero_or_pos u with y | y
            · subst y; exact absurd rfl z
            · exact y
          refine m_times (s := mR s2 S3) (by decide) (j2.oth o3 (by decide)) (by omega) (by omega) (fun S4 j4 o4 => ⟨rfl, m_compare (s := mR s2 S4) (by decide) (by decide) (j3.oth o4 (by decide)) j4 ⟨_, rfl, fun c => ?_, fun c => ?_⟩⟩)
          all_goals
            have hX3 : Rel (mR s2 S4) n mk kd tx len R lm ft A Bs wk ev w := hX2.rows ((o.mono (fun q hq => by omega)).tr ((o2.s (by decide)).tr ((o3.s (by decide)).tr (o4.s (by decide)))))
            rw [cmpN_lt] at c
          · refine ih (y' + 1) _ (by omega) hX3 (fun z' hz' => ?_)
            by_cases h : z' = y'
            · subst h
              exact ⟨hs z' (Nat.le_refl _), fun q => by have := key.mpr q; omega⟩
            · exact hno z' (by omega)
          · exact hp1 i u v hi h1 h2 h3 ea e1 e2 _ y' hy' hs (fun z' hz' => (hno z' hz').2) (key.mp (by omega)) hX3
        · have hu0 : u = 0 := (pk_lEQ (by omega) (by decide)).mp z
          have hX3 : Rel (mR s2 S3) n mk kd tx len R lm ft A Bs wk ev w := hX2.rows ((o.mono (fun q hq => by omega)).tr ((o2.s (by decide)).tr (o3.s (by decide))))
          refine hp1 i u v hi h1 h2 h3 ea e1 e2 _ y' hy' hs (fun z' hz' => (hno z' hz').2) ?_ hX3
          rw [hu0, Nat.mul_zero]
          exact Nat.zero_le _
      · have ey : y' = y := ((nI_eq (by omega) (by omega)).mp e).symm
        subst ey
        exact hp2 i u v hi h1 h2 h3 ea e1 e2 s2 y' (by omega) (Or.inr hl) hno hX2
  exact main 12 0 _ (by decide) hX.cd (fun z hz => absurd hz (by omega))
end M21
