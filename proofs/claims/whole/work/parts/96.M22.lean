/-! the reference: worth -/
theorem lW_int {x : Int} (hb : x.natAbs ≤ 1000000) : (Int64.ofInt x).toInt = x := by
  have hs : Int64.size = 18446744073709551616 := rfl
  rw [Int64.toInt_ofInt, hs]
  exact Int.bmod_eq_of_le (by omega) (by omega)
theorem lW_pos {x : Int} (h : 0 ≤ x) (hb : x.natAbs ≤ 1000000) : Int64.ofInt x = lN x.natAbs := by
  apply Int64.toInt_inj.mp
  rw [pk_lT (by omega), lW_int hb]
  omega
theorem lW_neg {x : Int} (h : ¬ 0 ≤ x) (hb : x.natAbs ≤ 1000000) : -(Int64.ofInt x) = lN x.natAbs := by
  apply Int64.toInt_inj.mp
  rw [pk_lT (by omega), Int64.toInt_neg, lW_int hb, Int.bmod_eq_of_le (by omega) (by omega)]
  omega
theorem lW_ge {x : Int} (hb : x.natAbs ≤ 1000000) : lN 0 ≤ Int64.ofInt x ↔ 0 ≤ x := by
  rw [Int64.le_iff_toInt_le, pk_lT (by decide), lW_int hb]
  omega
theorem lW_0 {x : Int} (hb : x.natAbs ≤ 1000000) : Int64.ofInt x = lN 0 ↔ x = 0 := by
  rw [← Int64.toInt_inj, pk_lT (by decide), lW_int hb]
  omega
section M22
variable {g : xG} {Q : mQ} {P : pQ} {s : MV} {x0 : Nat} {n len lm ft : Nat} {mk : Nat → Option Nat} {kd tx A Bs : Nat → Nat} {R : Rl} {wk ev : Tr} {w : Nat → Int}
theorem r_worth {a x : Int32} (hI : ssI n mk kd tx len R lm ft A Bs wk ev w) (hX : Rel s n mk kd tx len R lm ft A Bs wk ev w)
    (hp1 : ∀ y, y < 12 → a = nI y → (∀ z, z ≤ y → ¬ lng n (fa n mk R lm A Bs wk ev z).1 (fa n mk R lm A Bs wk ev z).2) → ∀ s' u l, Rel s' n mk kd tx len R lm ft A Bs wk ev w → lowT (dst (wsP n w (fa n mk R lm A Bs wk ev y).1) (wsN n w (fa n mk R lm A Bs wk ev y).1)) (fa n mk R lm A Bs wk ev y).2 u l → Q (some (.long (if x = -1 then (cmpN (wsP n w (fa n mk R lm A Bs wk ev y).1) (wsN n w (fa n mk R lm A Bs wk ev y).1)).toInt64 else lN (dgt u l x)))) s')
    (hp2 : ∀ y, y < 12 → a = nI y → (∃ z, z ≤ y ∧ lng n (fa n mk R lm A Bs wk ev z).1 (fa n mk R lm A Bs wk ev z).2) → ∀ s', Rel s' n mk kd tx len R lm ft A Bs wk ev w → Q (some (.long (-1))) s')
    (hp0 : (∀ y, y < 12 → ¬ a = nI y) → ∀ s', Rel s' n mk kd tx len R lm ft A Bs wk ev w → Q (some (.long (-1))) s') : CtM g M_X10_worth [.ref x0, .int a, .int x] x0 s Q := by
  refine CtM.of (by decide +kernel) (Nat.le_of_ble_eq_true rfl) (v_X10_worth_0 (m_isForetold (s := (MV.u_cd s 0)) hI hX.cd (fun y hy ea hs s' hX' hF hcd => ⟨1, rfl, by decide, fun _ => ?_, (fun z => absurd z (by decide))⟩) (fun y hy ea hl s' hX' hcd => ⟨0, rfl, by decide, fun q => absurd rfl q, fun _ => hp2 y hy ea hl s' hX'⟩) (fun hno => ⟨0, rfl, by decide, fun q => absurd rfl q, fun _ => hp0 hno _ hX.cd⟩)))
  obtain ⟨v1, v2⟩ := fa_fv hI hy
  have hn' : s'.n = n := hX'.1
  subst hn'
  have h6 := hX'.2.1.1
  have hP := hX'.2.2.2.2.2.2.2.2.2.1
  have hws := hX'.2.2.2.2.2.2.2.2.1
  have hw6 := hI.2.2.2.2.2.2.2.2.2.2
  have hBB := BBmono (a := 112) (b := 159) (by decide)
  have hBB2 := BBmono (a := 112) (b := 160) (by decide)
  have fin := hp1 y hy ea hs
  rw [ea]
  generalize hfp : (fa s'.n mk R lm A Bs wk ev y).1 = p at *
  generalize hfN : (fa s'.n mk R lm A Bs wk ev y).2 = N at *
  clear hp1 hp2 hp0
  have hwb : ∀ i, i < s'.n → wP w i ≤ 1000000 ∧ wN w i ≤ 1000000 := by
    intro i hi
    have := hw6 i hi
    unfold wP wN
    split <;> omega
  have tot : ∀ i, i ≤ s'.n → sm (fun t => p t * wP w t) i ≤ 6 * N * 1000000 ∧ sm (fun t => p t * wN w t) i ≤ 6 * N * 1000000 := by
    intro i hi
    have h1 : sm (fun t => p t * wP w t) i ≤ sm (fun t => p t * 1000000) i := sm_le_sm fun t ht => Nat.mul_le_mul_left _ (hwb t (by omega)).1
    have h2 : sm (fun t => p t * wN w t) i ≤ sm (fun t => p t * 1000000) i := sm_le_sm fun t ht => Nat.mul_le_mul_left _ (hwb t (by omega)).2
    rw [sm_mul] at h1 h2
    have h3 := sm_mono (p := p) (n := i) (m := s'.n) hi
    have h4 : sm p i * 1000000 ≤ 6 * N * 1000000 := Nat.mul_le_mul_right _ (Nat.le_trans h3 v1.2)
    exact ⟨Nat.le_trans h1 h4, Nat.le_trans h2 h4⟩
  have main : ∀ (d i : Nat) (S : St), i + d = s'.n → Fq S 82 (sm (fun t => p t * wP w t) i) N → Fq S 81 (sm (fun t => p t * wN w t) i) N → oths (fun q => 72 ≤ q ∧ q ≤ 82) s'.R S → BlkM g M_X10_worth x0 Q 33 [(0, .ref x0), (1, .int (nI y)), (2, .int x), (3, .int (nI i))] [] (mR s' S) := by
    intro d
    induction d with
    | zero =>
      intro i S hi h82 h81 hO
      have : i = s'.n := by omega
      subst this
      obtain ⟨t1, t2⟩ := tot s'.n (Nat.le_refl _)
      have m1 : ∀ q, q = 81 ∨ q = 82 → 72 ≤ q ∧ q ≤ 82 := fun q hq => by omega
      refine v_X10_worth_33 ⟨⟨by omega, by show s'.n < _; omega⟩, fun _ => f_align (s := mR s' S) (by decide) (by decide) (by decide) hP h81 h82 v1.1 (by omega) (by omega) (by omega) (fun S2 c1 c2 e t k1 k2 ht hNt hc1 hc2 o2 => ⟨rfl, m_compare (s := mR s' S2) (by decide) (by decide) k2 k1 ⟨_, rfl, ?_⟩⟩), fun z => absurd z (by show ¬ s'.n < s'.n; omega)⟩
      have hcm : cmpN c2 c1 = cmpN (wsP s'.n w p) (wsN s'.n w p) := by
        rw [← cmpN_mul ht, hc1, hc2]
      have hX2 : Rel (mR s' S2) s'.n mk kd tx len R lm ft A Bs wk ev w := hX'.rows (hO.tr (o2.mono m1))
      replace t1 : wsP s'.n w p ≤ 6 * N * 1000000 := t1
      replace t2 : wsN s'.n w p ≤ 6 * N * 1000000 := t2
      replace hc1 : c1 * t = wsN s'.n w p := hc1
      replace hc2 : c2 * t = wsP s'.n w p := hc2
      have g82 : Gq S2 82 (wsP s'.n w p) N := ⟨c2, e, k2, ⟨t, hNt⟩, by rw [hNt, ← hc2]; grind⟩
      have g81 : Gq S2 81 (wsN s'.n w p) N := ⟨c1, e, k1, ⟨t, hNt⟩, by rw [hNt, ← hc1]; grind⟩
      refine ⟨fun z => ?_, fun z => ?_⟩
      · rw [hcm]
        refine ⟨fun c => ⟨fun _ => ?_, fun c' => absurd c c'⟩, fun c => ⟨fun c' => absurd c' c, fun _ => ?_⟩⟩
        · have hle : wsN s'.n w p ≤ wsP s'.n w p := by
            rw [← Int32.not_lt, cmpN_lt] at c
            omega
          have hdst : dst (wsP s'.n w p) (wsN s'.n w p) = wsP s'.n w p - wsN s'.n w p := by unfold dst; rw [if_neg (by omega)]
          refine g_take (s := mR s' S2) (by decide) (by decide) (by decide) (by decide) hP g82 g81 v1.1 (by omega) hle (by omega) (fun S3 k3 o3 => ⟨rfl, ?_⟩)
          rw [← hdst] at k3
          refine f_partOf (s := mR s' S3) (by decide) (by decide) hP k3 v1.1 (by omega) (fun S4 u l hl o4 => ⟨_, rfl, ?_⟩)
          have f2 := fin (mR s' S4) u l (hX'.rows (hO.tr ((o2.mono m1).tr ((o3.mono (fun q hq => by omega)).tr (o4.s (by decide)))))) hl
          rw [if_neg z] at f2
          exact f2
        · have hlt : wsP s'.n w p < wsN s'.n w p := by
            rw [← Int32.not_lt, Decidable.not_not, cmpN_lt] at c
            exact c
          have hdst : dst (wsP s'.n w p) (wsN s'.n w p) = wsN s'.n w p - wsP s'.n w p := by unfold dst; rw [if_pos hlt]
          refine g_take (s := mR s' S2) (by decide) (by decide) (by decide) (by decide) hP g81 g82 v1.1 (by omega) (by omega) (by omega) (fun S3 k3 o3 => ⟨rfl, ?_⟩)
          rw [← hdst] at k3
          refine f_partOf (s := mR s' S3) (by decide) (by decide) hP k3 v1.1 (by omega) (fun S4 u l hl o4 => ⟨_, rfl, ?_⟩)
          have f2 := fin (mR s' S4) u l (hX'.rows (hO.tr ((o2.mono m1).tr ((o3.mono (fun q hq => by omega)).tr (o4.s (by decide)))))) hl
          rw [if_neg z] at f2
          exact f2
      · have f2 := fin (mR s' S2) _ _ hX2 (lowT.ex v1.1)
        rw [if_pos z, ← hcm] at f2
        exact f2
    | succ d ih =>
      intro i S hi h82 h81 hO
      have hi2 : i < s'.n := by omega
      have hwi := hw6 i hi2
      have hwsi : s'.ws i = Int64.ofInt (w i) := hws i hi2
      obtain ⟨t1, t2⟩ := tot i (by omega)
      obtain ⟨t3, t4⟩ := tot (i + 1) (by omega)
      have s1 : sm (fun t => p t * wP w t) (i + 1) = sm (fun t => p t * wP w t) i + p i * wP w i := rfl
      have s2 : sm (fun t => p t * wN w t) (i + 1) = sm (fun t => p t * wN w t) i + p i * wN w i := rfl
      rw [s1] at t3
      rw [s2] at t4
      have hpi : p i ≤ 6 * N := Nat.le_trans (sm_le hi2) v1.2
      have hF' : Fq S (6 * y + i) (p i) N := (hF i hi2).same (hO _ (by omega))
      have e1 : nI 6 * nI y + nI i = nI (6 * y + i) := by rw [pk_mul, nI_add]
      refine v_X10_worth_33 ⟨⟨by omega, by show s'.n < _; omega⟩, fun z => absurd z (by show ¬ s'.n ≤ i; omega), fun _ => ?_⟩
      rw [e1]
      refine f_copy (s := mR s' S) (by omega) (by decide) (by omega) hF' (fun S1 k1 o1 => ⟨rfl, by omega, ?_⟩)
      have ew : (mR (mR s' S) S1).ws i = Int64.ofInt (w i) := hwsi
      rw [ew]
      have hO1 : oths (fun q => 72 ≤ q ∧ q ≤ 82) s'.R S1 := hO.tr (o1.s (by decide))
      refine ⟨fun z => ?_, fun z => ?_⟩
      · have z' : w i = 0 := (lW_0 hwi).mp z
        have p0 : wP w i = 0 := by unfold wP; rw [z']; rfl
        have n0 : wN w i = 0 := by unfold wN; rw [z']; rfl
        refine ih (i + 1) S1 (by omega) ?_ ?_ hO1
        · rw [s1, p0, Nat.mul_zero, Nat.add_zero]; exact h82.oth o1 (by decide)
        · rw [s2, n0, Nat.mul_zero, Nat.add_zero]; exact h81.oth o1 (by decide)
      · have z' : ¬ w i = 0 := fun h => z ((lW_0 hwi).mpr h)
        obtain ⟨x', e, f1, f2, f3, f4, f5, f6⟩ := k1.low v1.1
        have hxm : x' * (w i).natAbs ≤ 6 * N * 1000000 := Nat.mul_le_mul (by omega) hwi
        have hpm : p i * (w i).natAbs ≤ 6 * N * 1000000 := Nat.mul_le_mul hpi hwi
        have red' : ∀ (S2 : St) (Q' : mQ), Rw S2 74 (x' * (w i).natAbs) e → (∀ S3, Fq S3 74 (p i * (w i).natAbs) N → oth 74 S2 S3 → Q' none (mR s' S3)) → CtM g M_X10_reduce [.ref x0, .int (nI 74)] x0 (mR s' S2) Q' := by
          intro S2 Q' hr hq
          refine f_reduce (s := mR s' S2) (by decide) hP hr ?_ (by omega) (fun S3 k3 o3 => hq S3 k3 o3)
          have : x' * (w i).natAbs * N = x' * N * (w i).natAbs := by grind
          rw [this, f5]
          grind
        refine ⟨fun c => ?_, fun c => ?_⟩
        · have c' : 0 ≤ w i := (lW_ge hwi).mp c
          have p1 : wP w i = (w i).natAbs := by unfold wP; rw [if_pos c']
          have n0 : wN w i = 0 := by unfold wN; rw [if_pos c']
          rw [lW_pos c' hwi]
          refine m_times (s := mR s' S1) (by decide) f1 (by omega) (by omega) (fun S2 k2 o2 => ⟨rfl, red' S2 _ k2 (fun S3 k3 o3 => ⟨rfl, fun _ => ?_, fun c2 => absurd (by rw [← lW_pos c' hwi]; exact c) c2⟩)⟩)
          rw [p1] at t3 s1
          refine f_add (s := mR s' S3) (by decide) (by decide) (by decide) (by decide) hP (((h82.oth o1 (by decide)).oth o2 (by decide)).oth o3 (by decide)) k3 v1.1 (by omega) (by omega) (by omega) (fun S4 k4 o4 => ⟨rfl, ih (i + 1) S4 (by omega) ?_ ?_ ?_⟩)
          · rw [s1]; exact k4
          · rw [s2, n0, Nat.mul_zero, Nat.add_zero]
            exact (((h81.oth o1 (by decide)).oth o2 (by decide)).oth o3 (by decide)).same (o4 81 (by decide))
          · exact hO1.tr ((o2.s (by decide)).tr ((o3.s (by decide)).tr (o4.mono (fun q hq => by omega))))
        · have c' : ¬ 0 ≤ w i := fun h => c ((lW_ge hwi).mpr h)
          have p0 : wP w i = 0 := by unfold wP; rw [if_neg c']
          have n1 : wN w i = (w i).natAbs := by unfold wN; rw [if_neg c']
          rw [lW_neg c' hwi]
          refine m_times (s := mR s' S1) (by decide) f1 (by omega) (by omega) (fun S2 k2 o2 => ⟨rfl, red' S2 _ k2 (fun S3 k3 o3 => ⟨rfl, fun c2 => absurd c2 c, fun _ => ?_⟩)⟩)
          rw [n1] at t4 s2
          refine f_add (s := mR s' S3) (by decide) (by decide) (by decide) (by decide) hP (((h81.oth o1 (by decide)).oth o2 (by decide)).oth o3 (by decide)) k3 v1.1 (by omega) (by omega) (by omega) (fun S4 k4 o4 => ⟨rfl, ih (i + 1) S4 (by omega) ?_ ?_ ?_⟩)
          · rw [s1, p0, Nat.mul_zero, Nat.add_zero]
            exact (((h82.oth o1 (by decide)).oth o2 (by decide)).oth o3 (by decide)).same (o4 82 (by decide))
          · rw [s2]; exact k4
          · exact hO1.tr ((o2.s (by decide)).tr ((o3.s (by decide)).tr (o4.mono (fun q hq => by omega))))
  refine f_set0 (s := s') (b := N) (by decide) (fun S1 k1 o1 => ⟨rfl, f_set0 (s := mR s' S1) (b := N) (by decide) (fun S2 k2 o2 => ⟨rfl, ?_⟩)⟩)
  exact main s'.n 0 S2 (by omega) (k1.oth o2 (by decide)) k2 ((o1.s (by decide)).tr (o2.s (by decide)))
end M22
