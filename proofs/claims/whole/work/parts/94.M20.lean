/-! the reference: foretelling -/
abbrev fS (s : MV) (C G : Nat → Nat) (R : St) (t : Nat → Nat) (u fr : Nat) : MV := (MV.u_fr (MV.u_up (MV.u_tl (MV.u_gp (MV.u_ct (mR s R) C) G) t) u) fr)
section M20
variable {g : xG} {Q : mQ} {P : pQ} {s : MV} {x0 : Nat} {n len lm ft : Nat} {mk : Nat → Option Nat} {kd tx A Bs : Nat → Nat} {R : Rl} {wk ev : Tr} {w : Nat → Int}
theorem Rel.fS {C G t : Nat → Nat} {S : St} {u fr : Nat} (hX : Rel s n mk kd tx len R lm ft A Bs wk ev w) (h83 : ∃ e, Rw S 83 (2 ^ 600) e) (ht : ∀ y, y < 12 → t y ≤ 1) (hf : fr ≤ 1) (hc : fr = 1 → fcM (fS s C G S t u fr) n (fa n mk R lm A Bs wk ev)) : Rel (fS s C G S t u fr) n mk kd tx len R lm ft A Bs wk ev w := by
  obtain ⟨q1, q4, q5, q6, q7, q8, q9, q10, q11, q12, q13, q14, q15, q16⟩ := hX
  exact ⟨q1, q4, q5, q6, q7, q8, q9, q10, q11, q12, h83, ht, hf, hc⟩
theorem Rel.rows {S : St} (hX : Rel s n mk kd tx len R lm ft A Bs wk ev w) (o : oths (fun q => 72 ≤ q ∧ q ≤ 82) s.R S) : Rel (mR s S) n mk kd tx len R lm ft A Bs wk ev w := by
  obtain ⟨q1, q4, q5, q6, q7, q8, q9, q10, q11, q12, ⟨e, q13⟩, q14, q15, q16⟩ := hX
  refine ⟨q1, q4, q5, q6, q7, q8, q9, q10, q11, q12, ⟨e, q13.same (o 83 (by omega))⟩, q14, q15, fun h => ?_⟩
  obtain ⟨f1, f2, f3⟩ := q16 h
  have hn : s.n ≤ 6 := q4.1.2
  refine ⟨f1, fun y hy ht => ?_, f3⟩
  obtain ⟨g1, g2⟩ := f2 y hy ht
  refine ⟨g1, fun i hi => (g2 i hi).same (o _ ?_)⟩
  replace f1 : s.up < 12 := f1
  replace hy : y ≤ s.up := hy
  omega
/-- the first year is never too long -/
theorem fa0_short (hI : ssI n mk kd tx len R lm ft A Bs wk ev w) : ¬ lng n (fa n mk R lm A Bs wk ev 0).1 (fa n mk R lm A Bs wk ev 0).2 := by
  intro h
  have hst := hI.2.2.2.2.2.2.2.1
  unfold lng at h
  obtain ⟨i, hi, u, l, h1, h2⟩ := h
  obtain ⟨b1, b2, b3⟩ := hst i hi
  have hd := prd_dvd (B := Bs) hi
  have hpos := prd_pos (B := Bs) (n := n) (fun j hj => (hst j hj).1)
  have e1 : (fa n mk R lm A Bs wk ev 0).1 i = prd Bs n / Bs i * A i := rfl
  have e2 : (fa n mk R lm A Bs wk ev 0).2 = prd Bs n := rfl
  rw [e1, e2] at h1
  have h3 : lowT (A i) (Bs i) u l := by
    refine h1.sc hpos ?_
    have := Nat.div_mul_cancel hd
    calc prd Bs n / Bs i * A i * Bs i = prd Bs n / Bs i * Bs i * A i := by grind
      _ = A i * prd Bs n := by rw [this, Nat.mul_comm]
  obtain ⟨l1, l2⟩ := h3.le b1
  have h4 : (1000 : Nat) < 2 ^ 600 := by decide +kernel
  exact h2 ⟨by omega, by omega⟩
theorem m_foretell {Y : Nat} (hI : ssI n mk kd tx len R lm ft A Bs wk ev w) (hX : Rel s n mk kd tx len R lm ft A Bs wk ev w) (hY : Y < 12) (hp : ∀ s', Rel s' n mk kd tx len R lm ft A Bs wk ev w → s'.fr = 1 → Y ≤ s'.up → s'.cd = s.cd → Q none s') : CtM g M_X10_foretell [.ref x0, .int (nI Y)] x0 s Q := by
  have hX0 := hX
  obtain ⟨rfl, q4, q5, q6, rfl, ⟨q8, q8a, q8b⟩, q9, q10, q11, q12, ⟨e83, q13⟩, q14, q15, q16⟩ := hX
  have hn := q4.1
  have hRl : rlOK s.n R := hI.2.2.2.2.1
  have hst := hI.2.2.2.2.2.2.2.1
  have how := hI.2.2.2.2.2.2.2.2.1
  have hov := hI.2.2.2.2.2.2.2.2.2.1
  have hmov := aMov (gr := agr mk R) (lm := s.lm) hn.2
  have hfok : ∀ y, y < 12 → fv s.n (fa s.n mk R s.lm A Bs wk ev y).1 (fa s.n mk R s.lm A Bs wk ev y).2 ∧ (fa s.n mk R s.lm A Bs wk ev y).2 ≤ Kb y := fun y hy => fcs_ok hn hst how hov hmov y hy
  -- the years
  have l2 : ∀ (d : Nat) (C G : Nat → Nat) (S : St) (t : Nat → Nat) (u : Nat), Y ≤ u + d → curM (fS s C G S t u 1) (agr mk R) → (∃ e, Rw S 83 (2 ^ 600) e) → (∀ y, y < 12 → t y ≤ 1) → fcM (fS s C G S t u 1) s.n (fa s.n mk R s.lm A Bs wk ev) → BlkM g M_X10_foretell x0 Q 111 [(0, .ref x0), (1, .int (nI Y))] [] (fS s C G S t u 1) := by
    intro d
    induction d with
    | zero =>
      intro C G S t u hd hc h83 ht hf
      have hu : u < 12 := hf.1
      exact v_X10_foretell_111 ⟨⟨by show u < _; omega, by omega⟩, fun _ => hp _ (hX0.fS h83 ht (by decide) (fun _ => hf)) rfl (by show Y ≤ u; omega) rfl, fun z => absurd z (by show ¬ u < Y; omega)⟩
    | succ d ih =>
      intro C G S t u hd hc h83 ht hf
      obtain ⟨f1, f2, f3⟩ := id hf
      replace f1 : u < 12 := f1
      have htu := ht u f1
      refine v_X10_foretell_111 ⟨⟨by show u < _; omega, by omega⟩, fun _ => hp _ (hX0.fS h83 ht (by decide) (fun _ => hf)) rfl (by assumption) rfl, fun z => ⟨f1, ?_⟩⟩
      replace z : u < Y := z
      show t u < 2 ^ 31 ∧ (t u = 0 → _) ∧ (¬ t u = 0 → _)
      refine ⟨by omega, fun k => ?_, fun k => ⟨by show u + 1 < 12; omega, by decide, ?_⟩⟩
      · obtain ⟨g1, g2⟩ := f2 u (Nat.le_refl _) k
        obtain ⟨v1, v2⟩ := hfok u (by omega)
        refine m_step (s := fS s C G S t u 1) (y := u) (w := wk) (v := ev) (gr := agr mk R) hn (by show u < 11; omega) q12 hc q9 q10 how hov h83 k v1 v2 g2 (fun S' t' P3 D3 eP eD r1 r2 r3 r4 => ⟨rfl, ?_⟩)
        have hP3 : P3 = (fa s.n mk R s.lm A Bs wk ev (u + 1)).1 := eP
        have hD3 : D3 = (fa s.n mk R s.lm A Bs wk ev (u + 1)).2 := eD
        rw [hP3, hD3] at r1 r3
        obtain ⟨e, h83'⟩ := h83
        refine ih C G S' t' (u + 1) (by omega) hc ⟨e, h83'.same (r2 83 (by unfold stS; show ¬ ((6 * (u + 1) ≤ 83 ∧ _) ∨ _); omega))⟩ (fun y hy => ?_) ⟨by show u + 1 < 12; omega, fun y hy hty => ?_, fun y hy hty => ?_⟩
        · by_cases h : y = u + 1
          · subst h; rcases r3 with h | h <;> omega
          · rw [r4 y h]; exact ht y hy
        · replace hy : y ≤ u + 1 := hy
          replace hty : t' y = 0 := hty
          by_cases h : y = u + 1
          · subst h
            refine ⟨fun z' hz' => ?_, r1⟩
            by_cases h' : z' = u + 1
            · subst h'
              rcases r3 with h | h
              · exact h.2
              · omega
            · exact g1 z' (by omega)
          · have hty2 : t y = 0 := (r4 y h).symm.trans hty
            obtain ⟨a1, a2⟩ := f2 y (by show y ≤ u; omega) hty2
            refine ⟨a1, fun i hi => (a2 i hi).same (r2 _ ?_)⟩
            unfold stS
            show ¬ ((6 * (u + 1) ≤ 6 * y + i ∧ 6 * y + i < 6 * (u + 1) + 6) ∨ (72 ≤ 6 * y + i ∧ 6 * y + i ≤ 82))
            omega
        · replace hy : y ≤ u + 1 := hy
          replace hty : ¬ t' y = 0 := hty
          by_cases h : y = u + 1
          · subst h
            rcases r3 with h | h
            · omega
            · exact ⟨u + 1, Nat.le_refl _, h.2⟩
          · exact f3 y (by show y ≤ u; omega) (fun q => hty ((r4 y h).trans q))
      · obtain ⟨z0, hz0, hz1⟩ := f3 u (Nat.le_refl _) k
        refine ih C G S (va_up t (u + 1) 1) (u + 1) (by omega) hc h83 (fun y hy => ?_) ⟨by show u + 1 < 12; omega, fun y hy hty => ?_, fun y hy hty => ?_⟩
        · by_cases h : y = u + 1
          · subst h; rw [up_s]; decide
          · rw [up_n h]; exact ht y hy
        · replace hy : y ≤ u + 1 := hy
          replace hty : va_up t (u + 1) 1 y = 0 := hty
          by_cases h : y = u + 1
          · subst h; rw [up_s] at hty; omega
          · rw [up_n h] at hty
            exact f2 y (by show y ≤ u; omega) hty
        · replace hy : y ≤ u + 1 := hy
          replace hty : ¬ va_up t (u + 1) 1 y = 0 := hty
          by_cases h : y = u + 1
          · subst h; exact ⟨z0, by omega, hz1⟩
          · rw [up_n h] at hty
            exact f3 y (by show y ≤ u; omega) hty
  have hBas : ∀ (C G : Nat → Nat) (S : St) (t : Nat → Nat) (u f : Nat), bas (fS s C G S t u f) mk R := fun _ _ _ _ _ _ => q4
  have hlm : s.lm ≤ 50 := hI.2.2.2.2.2.1
  -- the start
  have l1 : ∀ (d i : Nat) (C G : Nat → Nat) (S : St), i + d = s.n → (∀ j, j < i → Fq S j (A j) (Bs j)) → oths (fun q => q < 6) s.R S → BlkM g M_X10_foretell x0 Q 13 [(0, .ref x0), (1, .int (nI Y)), (2, .int (nI i))] [] (fS s C G S s.tl s.up s.fr) := by
    intro d
    induction d with
    | zero =>
      intro i C G S hi hF hO
      have : i = s.n := by omega
      subst this
      have h83 : Rw S 83 (2 ^ 600) e83 := q13.same (hO 83 (by omega))
      have hpos := prd_pos (B := Bs) (n := s.n) (fun j hj => (hst j hj).1)
      refine v_X10_foretell_13 ⟨⟨by omega, by show s.n < _; omega⟩, fun _ => ⟨by decide, by decide, m_countAll (s := fS s C G S (va_up s.tl 0 0) 0 1) (hBas _ _ _ _ _ _) hRl hlm (fun C' G' hc => ⟨rfl, ?_⟩)⟩, fun z => absurd z (by show ¬ s.n < s.n; omega)⟩
      refine l2 Y C' G' S (va_up s.tl 0 0) 0 (by omega) hc ⟨e83, h83⟩ (fun y hy => ?_) ⟨by show 0 < 12; decide, fun y hy hty => ?_, fun y hy hty => ?_⟩
      · by_cases h : y = 0
        · subst h; rw [up_s]; decide
        · rw [up_n h]; exact q14 y hy
      · have hy0 : y = 0 := by
          replace hy : y ≤ 0 := hy
          omega
        subst hy0
        refine ⟨fun z hz => ?_, fun j hj => ?_⟩
        · have : z = 0 := by omega
          subst this
          exact fa0_short hI
        · rw [show 6 * 0 + j = j by omega]
          refine (hF j hj).eq (hst j hj).1 ?_
          show A j * prd Bs s.n = prd Bs s.n / Bs j * A j * Bs j
          have := Nat.div_mul_cancel (prd_dvd (B := Bs) hj)
          calc A j * prd Bs s.n = A j * (prd Bs s.n / Bs j * Bs j) := by rw [this]
            _ = prd Bs s.n / Bs j * A j * Bs j := by grind
      · have hy0 : y = 0 := by
          replace hy : y ≤ 0 := hy
          omega
        subst hy0
        exact absurd (show va_up s.tl 0 0 0 = 0 from up_s) hty
    | succ d ih =>
      intro i C G S hi hF hO
      have hi2 : i < s.n := by omega
      have hstS : (fS s C G S s.tl s.up s.fr).st = ft := q8
      have next : ∀ S', Fq S' i (A i) (Bs i) → oth i S S' → BlkM g M_X10_foretell x0 Q 13 [(0, .ref x0), (1, .int (nI Y)), (2, .int (nI (i + 1)))] [] (fS s C G S' s.tl s.up s.fr) := by
        intro S' hk ho
        refine ih (i + 1) C G S' (by omega) (fun j hj => ?_) (hO.tr (ho.s (by show i < 6; omega)))
        by_cases z : j = i
        · subst z; exact hk
        · exact (hF j (by omega)).oth ho z
      have hft := hI.2.2.2.2.2.2.1
      have hstft : ∀ S', (fS s C G S' s.tl s.up s.fr).st = ft := fun _ => q8
      refine v_X10_foretell_13 ⟨⟨by omega, by show s.n < _; omega⟩, fun z => absurd z (by show ¬ s.n ≤ i; omega), fun _ => ⟨by show s.st < _; omega, fun z => ?_, fun z => ?_⟩⟩
      · replace z : s.st = 0 := z
        have z0 : ft = 0 := by omega
        obtain ⟨a1, a2, a3, a4⟩ := q8a z0 i hi2
        refine ⟨by omega, fun y => f_set0 (s := fS s C G S s.tl s.up s.fr) (b := 1) (by omega) (fun S' k1 o1 => ⟨rfl, by show s.st < _; omega, fun _ => ?_, fun x => absurd z x⟩), fun y => f_set1 (s := fS s C G S s.tl s.up s.fr) (by omega) (fun S' k1 o1 => ⟨rfl, by show s.st < _; omega, fun _ => ?_, fun x => absurd z x⟩)⟩
        · refine next S' ?_ o1
          rw [a3, a4]
          unfold A0
          rw [up_n y]
          exact k1
        · refine next S' ?_ o1
          subst y
          rw [a3, a4]
          unfold A0
          rw [up_s]
          exact k1
      · replace z : ¬ s.st = 0 := z
        have z0 : ¬ ft = 0 := by omega
        obtain ⟨a1, a2⟩ := q8b z0 i hi2
        obtain ⟨b1, b2, b3⟩ := hst i hi2
        have pt : ∀ S1 (Q' : mQ), Fq S1 i 1 1 → oth i S S1 → (∀ S', Q' none (mR (fS s C G S1 s.tl s.up s.fr) S') ↔ Q' none (fS s C G S' s.tl s.up s.fr)) → True := fun _ _ _ _ _ => trivial
        refine f_set1 (s := fS s C G S s.tl s.up s.fr) (by omega) (fun S1 k1 o1 => ⟨rfl, by show s.st < _; omega, fun x => absurd x z, fun _ => ⟨by omega, by show s.sa i < _; omega, by omega, by show s.sb i < _; (split at a2 <;> omega), fun x => ⟨by omega, ?_⟩, fun x => ?_⟩⟩)
        · replace x : ¬ s.sb i = 0 := x
          rw [if_neg x] at a2
          show CtM g M_X10_part [.ref x0, .int (nI i), .long (lN (s.sa i)), .int (nI (s.sb i))] x0 (fS s C G S1 s.tl s.up s.fr) _
          rw [a1, ← a2]
          refine f_part (s := fS s C G S1 s.tl s.up s.fr) (by omega) q12 k1 (by decide) (by omega) ⟨b1, b2⟩ ?_ ?_ (fun S2 k2 o2 => ⟨rfl, next S2 ?_ (o1.tr o2)⟩)
          · have h1 : (1000 : Nat) < 1000000000 ^ 160 := by decide +kernel
            omega
          · have h1 : (1000 : Nat) < 1000000000 ^ 160 := by decide +kernel
            omega
          · rw [Nat.one_mul, Nat.one_mul] at k2
            exact k2
        · replace x : s.sb i = 0 := x
          rw [if_pos x] at a2
          show CtM g M_X10_part [.ref x0, .int (nI i), .long (lN (s.sa i)), .int (nI 1)] x0 (fS s C G S1 s.tl s.up s.fr) _
          rw [a1]
          refine f_part (s := fS s C G S1 s.tl s.up s.fr) (by omega) q12 k1 (by decide) (by omega) ⟨by decide, by decide⟩ ?_ ?_ (fun S2 k2 o2 => ⟨rfl, next S2 ?_ (o1.tr o2)⟩)
          · have h1 : (1000 : Nat) < 1000000000 ^ 160 := by decide +kernel
            omega
          · have h1 : (1000 : Nat) < 1000000000 ^ 160 := by decide +kernel
            omega
          · rw [Nat.one_mul, Nat.one_mul] at k2
            rw [a2]
            exact k2
  refine CtM.of (by decide +kernel) (Nat.le_of_ble_eq_true rfl) (v_X10_foretell_0 ⟨by omega, fun z => ?_, fun z => ?_⟩)
  · have z1 : s.fr = 1 := by omega
    refine m_countAll q4 hRl hlm (fun C G hc => ⟨rfl, ?_⟩)
    have hfc := q16 z1
    have e : fS s C G s.R s.tl s.up 1 = fS s C G s.R s.tl s.up s.fr := by rw [z1]
    have hb := l2 Y C G s.R s.tl s.up (by omega) (by rw [e]; exact hc) ⟨e83, q13⟩ q14 (by rw [e]; exact hfc)
    rw [e] at hb
    exact hb
  · refine m_countAll q4 hRl hlm (fun C G hc => ⟨rfl, ?_⟩)
    exact l1 s.n 0 C G s.R (by omega) (fun j hj => absurd hj (by omega)) oths.rf
theorem m_isForetold {x : Int32} (hI : ssI n mk kd tx len R lm ft A Bs wk ev w) (hX : Rel s n mk kd tx len R lm ft A Bs wk ev w)
    (hp1 : ∀ y, y < 12 → x = nI y → (∀ z, z ≤ y → ¬ lng n (fa n mk R lm A Bs wk ev z).1 (fa n mk R lm A Bs wk ev z).2) → ∀ s', Rel s' n mk kd tx len R lm ft A Bs wk ev w → (∀ i, i < n → Fq s'.R (6 * y + i) ((fa n mk R lm A Bs wk ev y).1 i) (fa n mk R lm A Bs wk ev y).2) → s'.cd = s.cd → Q (some (.int (nI 1))) s')
    (hp2 : ∀ y, y < 12 → x = nI y → (∃ z, z ≤ y ∧ lng n (fa n mk R lm A Bs wk ev z).1 (fa n mk R lm A Bs wk ev z).2) → ∀ s', Rel s' n mk kd tx len R lm ft A Bs wk ev w → s'.cd = s.cd → Q (some (.int (nI 0))) s')
    (hp0 : (∀ y, y < 12 → ¬ x = nI y) → Q (some (.int (nI 0))) s) : CtM g M_X10_isForetold [.ref x0, .int x] x0 s Q := by
  refine CtM.of (by decide +kernel) (Nat.le_of_ble_eq_true rfl) (v_X10_isForetold_0 (m_in32 (by decide) (by decide) (fun y _ hy e => ⟨1, rfl, by decide, fun _ => ?_, fun z => absurd z (by decide)⟩) (fun z => ⟨0, rfl, by decide, fun q => absurd rfl q, fun _ => hp0 (fun y hy => z y (by omega) (by omega))⟩)))
  rw [e]
  refine m_foretell hI hX (by omega) (fun s' hX' h1 h2 h3 => ⟨rfl, y, rfl, by omega, ?_⟩)
  obtain ⟨f1, f2, f3⟩ := hX'.2.2.2.2.2.2.2.2.2.2.2.2.2 h1
  have htl := hX'.2.2.2.2.2.2.2.2.2.2.2.1 y (by omega)
  refine ⟨by omega, fun z => ?_, fun z => ?_⟩
  · exact hp2 y (by omega) e (f3 y h2 z) s' hX' h3
  · obtain ⟨g1, g2⟩ := f2 y h2 z
    exact hp1 y (by omega) e g1 s' hX' g2 h3
end M20
