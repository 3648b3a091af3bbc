/-! the reference: calls that ask -/
def bB (gr : Nat → Option Nat) (t y : Nat) : Nat → Nat
  | 0 => 0
  | z + 1 => if bB gr t y z = 0 then (if z < y ∧ (gr (t * 12 + z)).isSome = true then 1 else 0) else 1
def bH (gr : Nat → Option Nat) (t y : Nat) : Nat → Nat
  | 0 => 0
  | z + 1 => if bH gr t y z = 0 then (if y < z ∧ (gr (t * 12 + z)).isSome = true then 1 else 0) else 1
theorem bB_s {gr : Nat → Option Nat} {t y z : Nat} : bB gr t y (z + 1) = if bB gr t y z = 0 then (if z < y ∧ (gr (t * 12 + z)).isSome = true then 1 else 0) else 1 := rfl
theorem bH_s {gr : Nat → Option Nat} {t y z : Nat} : bH gr t y (z + 1) = if bH gr t y z = 0 then (if y < z ∧ (gr (t * 12 + z)).isSome = true then 1 else 0) else 1 := rfl
theorem bB_b {gr : Nat → Option Nat} {t y : Nat} : ∀ z, bB gr t y z ≤ 1
  | 0 => Nat.zero_le _
  | z + 1 => by
    rw [bB_s]
    split
    · split <;> decide
    · decide
theorem bH_b {gr : Nat → Option Nat} {t y : Nat} : ∀ z, bH gr t y z ≤ 1
  | 0 => Nat.zero_le _
  | z + 1 => by
    rw [bH_s]
    split
    · split <;> decide
    · decide
theorem bB_bef {gr : Nat → Option Nat} {t y : Nat} : ∀ z, ¬ bB gr t y z = 0 ↔ bef gr t (min z y) = true
  | 0 => by
    rw [Nat.zero_min]
    exact ⟨fun q => absurd rfl q, fun q => by cases q⟩
  | z + 1 => by
    have ih := bB_bef (gr := gr) (t := t) (y := y) z
    rw [bB_s]
    by_cases q : z < y
    · rw [show min (z + 1) y = min z y + 1 by omega]
      show _ ↔ (bef gr t (min z y) || (gr (t * 12 + min z y)).isSome) = true
      rw [show t * 12 + min z y = t * 12 + z by omega, Bool.or_eq_true, ← ih]
      by_cases k : bB gr t y z = 0
      · rw [if_pos k]
        by_cases j : (gr (t * 12 + z)).isSome = true
        · rw [if_pos ⟨q, j⟩]; exact ⟨fun _ => Or.inr j, fun _ => by decide⟩
        · rw [if_neg (fun x => j x.2)]; exact ⟨fun x => absurd rfl x, fun x => x.elim (fun y => absurd k y) (fun y => absurd y j)⟩
      · rw [if_neg k]; exact ⟨fun _ => Or.inl k, fun _ => by decide⟩
    · rw [show min (z + 1) y = min z y by omega, ← ih]
      by_cases k : bB gr t y z = 0
      · rw [if_pos k, if_neg (fun x => q x.1)]; exact ⟨fun x => absurd rfl x, fun x => absurd k x⟩
      · rw [if_neg k]; exact ⟨fun _ => k, fun _ => by decide⟩
theorem bH_lgr {gr : Nat → Option Nat} {t y : Nat} : ∀ z, ¬ bH gr t y z = 0 ↔ y + 1 < lgr gr t z
  | 0 => ⟨fun q => absurd rfl q, fun q => absurd q (Nat.not_lt_zero _)⟩
  | z + 1 => by
    have ih := bH_lgr (gr := gr) (t := t) (y := y) z
    have hl := lgr_le (gr := gr) (t := t) z
    rw [bH_s]
    show _ ↔ y + 1 < (if (gr (t * 12 + z)).isSome then z + 1 else lgr gr t z)
    by_cases j : (gr (t * 12 + z)).isSome = true
    · rw [if_pos j]
      by_cases k : bH gr t y z = 0
      · rw [if_pos k]
        by_cases q : y < z
        · rw [if_pos ⟨q, j⟩]; exact ⟨fun _ => by omega, fun _ => by decide⟩
        · rw [if_neg (fun x => q x.1)]; exact ⟨fun x => absurd rfl x, fun x => by omega⟩
      · rw [if_neg k]
        have := ih.mp k
        exact ⟨fun _ => by omega, fun _ => by decide⟩
    · rw [if_neg j, ← ih]
      by_cases k : bH gr t y z = 0
      · rw [if_pos k, if_neg (fun x => j x.2)]; exact ⟨fun x => absurd rfl x, fun x => absurd k x⟩
      · rw [if_neg k]; exact ⟨fun _ => k, fun _ => by decide⟩
theorem cnt_samR {mk : Nat → Option Nat} {a b n : Nat} (ha : a < 4) (hm : ∀ i v, i < 480 → mk i = some v → v < n) : ∀ q, q ≤ 120 → sm (fun k => cnt (fun q => saw mk a k q && saw mk b k q) q) n = cnt (fun q => (mk (q * 4 + a)).isSome && (mk (q * 4 + a) == mk (q * 4 + b))) q
  | 0, _ => sm_zero n
  | q + 1, hq => by
    rw [cnt_s, ← cnt_samR ha hm q (by omega)]
    have e : sm (fun k => cnt (fun q => saw mk a k q && saw mk b k q) (q + 1)) n = sm (fun k => cnt (fun q => saw mk a k q && saw mk b k q) q) n + sm (fun k => if (saw mk a k q && saw mk b k q) = true then 1 else 0) n := sm_add
    rw [e]
    congr 1
    match z : mk (q * 4 + a) with
    | none =>
      rw [if_neg (by simp)]
      rw [sm_congr (q := fun _ => 0) (fun k _ => if_neg (by unfold saw; rw [z]; simp))]
      exact sm_zero n
    | some v =>
      have hv := hm _ v (by omega) z
      by_cases y : mk (q * 4 + b) = some v
      · rw [if_pos (by rw [y]; simp), sm_congr (q := fun k => if k = v then 1 else 0) (fun k _ => ?_), sm_one, if_pos hv]
        unfold saw
        rw [z, y]
        by_cases x : k = v
        · subst x; rw [if_pos (by simp), if_pos rfl]
        · rw [if_neg (by simp; intro h; exact absurd h.symm x), if_neg x]
      · rw [if_neg (by simp; exact fun h => y h.symm), sm_congr (q := fun _ => 0) (fun k _ => if_neg ?_)]
        · exact sm_zero n
        · unfold saw
          rw [z]
          simp
          intro h1 h2
          subst h1
          exact y h2
theorem i_absm {u v : Nat} (hu : u ≤ 20000) (hv : v ≤ 20000) : (if lN 0 ≤ lN u - lN v then lN u - lN v else -(lN u - lN v)) = lN (dst u v) := by
  have h := i_absd hu hv
  have e2 := (i_diff hu hv).2
  have e0 : (0 < lN u - lN v) ↔ v < u := by
    rw [Int64.lt_iff_toInt_lt, e2, show ((0 : Int64)).toInt = 0 from rfl]
    omega
  have e1 : (lN 0 ≤ lN u - lN v) ↔ v ≤ u := by
    rw [Int64.le_iff_toInt_le, e2, pk_lT (by decide)]
    omega
  by_cases q : v < u
  · rw [if_pos (e0.mpr q)] at h
    rw [if_pos (e1.mpr (by omega))]; exact h
  · rw [if_neg (fun z => q (e0.mp z))] at h
    by_cases k : v = u
    · subst k
      rw [if_pos (e1.mpr (Nat.le_refl _)), ← h]
      rw [lN_sub (Nat.le_refl _), Nat.sub_self]
      decide
    · rw [if_neg (fun z => k (by have := e1.mp z; omega))]; exact h
section M12
variable {g : xG} {Q : mQ} {P : pQ} {s : MV} {x0 : Nat} {n len lm ft : Nat} {mk : Nat → Option Nat} {kd tx A Bs : Nat → Nat} {R : Rl} {wk ev : Tr} {w : Nat → Int}
theorem r_graded {a b : Int32} (hX : Rel s n mk kd tx len R lm ft A Bs wk ev w)
    (hp1 : ∀ t y, t < 10 → y < 12 → a = nI t → b = nI y → ∀ s', Rel s' n mk kd tx len R lm ft A Bs wk ev w → Q (some (.int (oI (agr mk R (t * 12 + y))))) s')
    (hp0 : (∀ t y, t < 10 → y < 12 → a = nI t → ¬ b = nI y) → ∀ s', Rel s' n mk kd tx len R lm ft A Bs wk ev w → Q (some (.int (-1))) s') : CtM g M_X10_graded [.ref x0, .int a, .int b] x0 s Q := by
  refine CtM.of (by decide +kernel) (Nat.le_of_ble_eq_true rfl) (v_X10_graded_0 (m_isPlace (fun t y ht hy ea eb => ⟨1, rfl, by decide, (fun z => absurd z (by decide)), fun _ => ?_⟩) (fun z => ⟨0, rfl, by decide, fun _ => hp0 z _ hX.cd, fun q => absurd rfl q⟩)))
  rw [ea, eb]
  have hX' : Rel (MV.u_cd s 0) n mk kd tx len R lm ft A Bs wk ev w := hX
  exact g_gradeOf hX'.2.1 ht hy ⟨_, rfl, hp1 t y ht hy ea eb _ hX.cd⟩
theorem r_missing {k : Int32} (hI : ssI n mk kd tx len R lm ft A Bs wk ev w) (hX : Rel s n mk kd tx len R lm ft A Bs wk ev w)
    (hp1 : ∀ i, i < 120 → gp (agr mk R) i = true → nI (cnt (gp (agr mk R)) i) = k → ∀ s', Rel s' n mk kd tx len R lm ft A Bs wk ev w → Q (some (.int (nI (16 * (i / 12) + i % 12)))) s')
    (hp0 : (∀ i, i < 120 → gp (agr mk R) i = true → ¬ nI (cnt (gp (agr mk R)) i) = k) → ∀ s', Rel s' n mk kd tx len R lm ft A Bs wk ev w → Q (some (.int (-1))) s') : CtM g M_X10_missing [.ref x0, .int k] x0 s Q := by
  have hX' : Rel (MV.u_cd s 0) n mk kd tx len R lm ft A Bs wk ev w := hX
  have hB := hX'.2.1
  have hn : s.n = n := hX.1
  have hR : rlOK (MV.n (MV.u_cd s 0)) R := by show rlOK s.n R; rw [hn]; exact hI.2.2.2.2.1
  have hgl : ∀ i v, i < 120 → agr mk R i = some v → v < 2 ^ 31 := fun i v hi h => by
    have h1 := bas_lt hB hR hi h
    have h2 := hB.1.2
    omega
  have main : ∀ (d t : Nat), t + d = 10 → (∀ i, i < 12 * t → gp (agr mk R) i = true → ¬ nI (cnt (gp (agr mk R)) i) = k) → BlkM g M_X10_missing x0 Q 9 [(0, .ref x0), (1, .int k), (2, .int (nI (cnt (gp (agr mk R)) (12 * t)))), (3, .int (nI t))] [] (MV.u_cd s 0) := by
    intro d
    induction d with
    | zero =>
      intro t hd hno
      have : t = 10 := by omega
      subst this
      exact v_X10_missing_9 ⟨⟨by decide, by decide⟩, fun _ => hp0 (fun i hi => hno i (by omega)) _ hX', fun q => absurd q (by decide)⟩
    | succ d ih =>
      intro t hd hno
      have yl : ∀ (e y : Nat), y + e = 12 → (∀ i, i < 12 * t + y → gp (agr mk R) i = true → ¬ nI (cnt (gp (agr mk R)) i) = k) → BlkM g M_X10_missing x0 Q 18 [(0, .ref x0), (1, .int k), (2, .int (nI (cnt (gp (agr mk R)) (12 * t + y)))), (3, .int (nI t)), (4, .int (nI y))] [] (MV.u_cd s 0) := by
        intro e
        induction e with
        | zero =>
          intro y he hno
          have : y = 12 := by omega
          subst this
          exact v_X10_missing_18 ⟨⟨by decide, by decide⟩, fun _ => ih (t + 1) (by omega) hno, fun q => absurd q (by decide)⟩
        | succ e ihe =>
          intro y he hno
          have gpE : gp (agr mk R) (12 * t + y) = true ↔ agr mk R (t * 12 + y) = none ∧ ¬ bB (agr mk R) t y 12 = 0 ∧ ¬ bH (agr mk R) t y 12 = 0 := by
            unfold gp
            rw [show (12 * t + y) / 12 = t by omega, show (12 * t + y) % 12 = y by omega, show 12 * t + y = t * 12 + y by omega, Bool.and_eq_true, Bool.and_eq_true, decide_eq_true_eq, bB_bef, bH_lgr, show min 12 y = y by omega, Option.isNone_iff_eq_none]
            exact and_assoc
          have skip : ¬ gp (agr mk R) (12 * t + y) = true → BlkM g M_X10_missing x0 Q 150 [(0, .ref x0), (1, .int k), (2, .int (nI (cnt (gp (agr mk R)) (12 * t + y)))), (3, .int (nI t)), (4, .int (nI y))] [] (MV.u_cd s 0) := by
            intro hg
            refine v_X10_missing_150 ?_
            have nx := ihe (y + 1) (by omega) (fun i hi hgi => by
              by_cases z : i = 12 * t + y
              · subst z; exact absurd hgi hg
              · exact hno i (by omega) hgi)
            rw [show 12 * t + (y + 1) = 12 * t + y + 1 by omega, cnt_s, if_neg hg] at nx
            exact nx
          have zl : ∀ (f z : Nat), z + f = 12 → BlkM g M_X10_missing x0 Q 34 [(0, .ref x0), (1, .int k), (2, .int (nI (cnt (gp (agr mk R)) (12 * t + y)))), (3, .int (nI t)), (4, .int (nI y)), (5, .int (nI (bB (agr mk R) t y z))), (6, .int (nI (bH (agr mk R) t y z))), (7, .int (nI z))] [] (MV.u_cd s 0) := by
            intro f
            induction f with
            | zero =>
              intro z hf
              have : z = 12 := by omega
              subst this
              have b1 := bB_b (gr := agr mk R) (t := t) (y := y) 12
              have b2 := bH_b (gr := agr mk R) (t := t) (y := y) 12
              refine v_X10_missing_34 ⟨⟨by decide, by decide⟩, fun _ => ⟨by omega, fun q => skip (fun h => (gpE.mp h).2.1 q), fun q => ⟨by omega, fun q2 => skip (fun h => (gpE.mp h).2.2 q2), fun q2 => g_gradeOf hB (by omega) (by omega) ⟨_, rfl, fun q3 => skip (fun h => q3 (by rw [(gpE.mp h).1]; rfl)), fun q3 => ?_⟩⟩⟩, fun q => absurd q (by decide)⟩
              have hgp : gp (agr mk R) (12 * t + y) = true := gpE.mpr ⟨(oI_m1 (fun v h => hgl _ v (by omega) h)).mp q3, q, q2⟩
              refine ⟨fun q4 => v_X10_missing_150 ?_, fun q4 => ?_⟩
              · have nx := ihe (y + 1) (by omega) (fun i hi hgi => by
                  by_cases z : i = 12 * t + y
                  · subst z; exact q4
                  · exact hno i (by omega) hgi)
                rw [show 12 * t + (y + 1) = 12 * t + y + 1 by omega, cnt_s, if_pos hgp] at nx
                exact nx
              · have := hp1 (12 * t + y) (by omega) hgp q4 _ hX'
                rw [show (12 * t + y) / 12 = t by omega, show (12 * t + y) % 12 = y by omega] at this
                exact this
            | succ f ihf =>
              intro z hf
              have b1 := bB_b (gr := agr mk R) (t := t) (y := y) z
              have b2 := bH_b (gr := agr mk R) (t := t) (y := y) z
              have nx := ihf (z + 1) (by omega)
              rw [bB_s, bH_s] at nx
              have st : ∀ i, (¬ i = 0 ↔ (agr mk R (t * 12 + z)).isSome = true) → i < 2 ^ 31 → BlkM g M_X10_missing x0 Q 59 [(0, .ref x0), (1, .int k), (2, .int (nI (cnt (gp (agr mk R)) (12 * t + y)))), (3, .int (nI t)), (4, .int (nI y)), (5, .int (nI (bB (agr mk R) t y z))), (6, .int (nI (bH (agr mk R) t y z))), (7, .int (nI z)), (8, .int (nI i))] [] (MV.u_cd s 0) := by
                intro i hi hi2
                have s2 : ∀ v, v = (if bB (agr mk R) t y z = 0 then (if z < y ∧ (agr mk R (t * 12 + z)).isSome = true then 1 else 0) else 1) → BlkM g M_X10_missing x0 Q 83 [(0, .ref x0), (1, .int k), (2, .int (nI (cnt (gp (agr mk R)) (12 * t + y)))), (3, .int (nI t)), (4, .int (nI y)), (5, .int (nI v)), (6, .int (nI (bH (agr mk R) t y z))), (7, .int (nI z)), (8, .int (nI i))] [] (MV.u_cd s 0) := by
                  intro v hv
                  rw [← hv] at nx
                  have s3 : ∀ u, u = (if bH (agr mk R) t y z = 0 then (if y < z ∧ (agr mk R (t * 12 + z)).isSome = true then 1 else 0) else 1) → BlkM g M_X10_missing x0 Q 107 [(0, .ref x0), (1, .int k), (2, .int (nI (cnt (gp (agr mk R)) (12 * t + y)))), (3, .int (nI t)), (4, .int (nI y)), (5, .int (nI v)), (6, .int (nI u)), (7, .int (nI z))] [] (MV.u_cd s 0) := by
                    intro u hu
                    rw [← hu] at nx
                    exact v_X10_missing_107 nx
                  refine v_X10_missing_83 ⟨by omega, fun q => s3 1 (by rw [if_neg q]), fun q => ⟨⟨by omega, by omega⟩, fun q2 => s3 0 (by rw [if_pos q, if_neg (fun x => by omega)]), fun q2 => ⟨hi2, fun q3 => s3 0 (by rw [if_pos q, if_neg (fun x => hi.mpr x.2 q3)]), fun q3 => s3 1 (by rw [if_pos q, if_pos ⟨q2, hi.mp q3⟩])⟩⟩⟩
                refine v_X10_missing_59 ⟨by omega, fun q => s2 1 (by rw [if_neg q]), fun q => ⟨⟨by omega, by omega⟩, fun q2 => s2 0 (by rw [if_pos q, if_neg (fun x => by omega)]), fun q2 => ⟨hi2, fun q3 => s2 0 (by rw [if_pos q, if_neg (fun x => hi.mpr x.2 q3)]), fun q3 => s2 1 (by rw [if_pos q, if_pos ⟨q2, hi.mp q3⟩])⟩⟩⟩
              refine v_X10_missing_34 ⟨⟨by omega, by decide⟩, fun q => absurd q (by omega), fun _ => g_gradeOf hB (by omega) (by omega) ⟨_, rfl, fun q => ?_, fun q => ?_⟩⟩
              · have hz := (oI_m1 (fun v h => hgl _ v (by omega) h)).mp q
                exact st 0 (by rw [hz]; exact ⟨fun x => absurd rfl x, fun x => by cases x⟩) (by decide)
              · obtain ⟨v, hv⟩ := oI_nm1 q
                exact st 1 (by rw [hv]; exact ⟨fun _ => rfl, fun _ => by decide⟩) (by decide)
          exact v_X10_missing_18 ⟨⟨by omega, by decide⟩, fun q => absurd q (by omega), fun _ => zl 12 0 (by decide)⟩
      exact v_X10_missing_9 ⟨⟨by omega, by decide⟩, fun q => absurd q (by omega), fun _ => yl 12 0 (by decide) hno⟩
  exact CtM.of (by decide +kernel) (Nat.le_of_ble_eq_true rfl) (v_X10_missing_0 (main 10 0 (by decide) (fun i hi => absurd hi (by omega))))
theorem r_countAll {v : Nat} (hI : ssI n mk kd tx len R lm ft A Bs wk ev w) (hX : Rel s n mk kd tx len R lm ft A Bs wk ev w) (hp : ∀ C G, curM (MV.u_gp (MV.u_ct (MV.u_cd s v) C) G) (agr mk R) → Rel (MV.u_gp (MV.u_ct (MV.u_cd s v) C) G) n mk kd tx len R lm ft A Bs wk ev w → Q none (MV.u_gp (MV.u_ct (MV.u_cd s v) C) G)) : CtM g M_X10_countAll [.ref x0] x0 (MV.u_cd s v) Q := by
  have hX' : Rel (MV.u_cd s v) n mk kd tx len R lm ft A Bs wk ev w := hX
  have hn : s.n = n := hX.1
  have hl : s.lm = lm := hX.2.2.2.2.1
  exact m_countAll hX'.2.1 (by show rlOK s.n R; rw [hn]; exact hI.2.2.2.2.1) (by show s.lm ≤ 50; rw [hl]; exact hI.2.2.2.2.2.1) (fun C G hc => hp C G hc hX.cg)
theorem r_count {a b : Int32} (hI : ssI n mk kd tx len R lm ft A Bs wk ev w) (hX : Rel s n mk kd tx len R lm ft A Bs wk ev w)
    (hp1 : ∀ i j, i < n → j < n → a = nI i → b = nI j → ∀ s', s'.cd = 0 → Rel s' n mk kd tx len R lm ft A Bs wk ev w → Q (some (.int (nI (aC (agr mk R) (i * 6 + j))))) s')
    (hp0 : (∀ i j, i < n → j < n → a = nI i → ¬ b = nI j) → ∀ s', s'.cd = 1 → Rel s' n mk kd tx len R lm ft A Bs wk ev w → Q (some (.int (nI 0))) s') : CtM g M_X10_count [.ref x0, .int a, .int b] x0 s Q := by
  have hn : s.n = n := hX.1
  subst hn
  have h6 := hX.2.1.1
  refine CtM.of (by decide +kernel) (Nat.le_of_ble_eq_true rfl) (v_X10_count_0 (m_isState h6 (fun i hi ea => ⟨1, rfl, by decide, (fun z => absurd z (by decide)), fun _ => m_isState h6 (fun j hj eb => ⟨1, rfl, by decide, (fun z => absurd z (by decide)), fun _ => ?_⟩) (fun z => ⟨0, rfl, by decide, fun _ => hp0 (fun i j _ hj _ => z j hj) _ rfl hX.cd, fun q => absurd rfl q⟩)⟩) (fun z => ⟨0, rfl, by decide, fun _ => hp0 (fun i j hi _ ea => absurd ea (z i hi)) _ rfl hX.cd, fun q => absurd rfl q⟩)))
  refine r_countAll hI hX (fun C G hc hX2 => ⟨rfl, 6 * i + j, ?_, by omega, ?_⟩)
  · rw [ea, eb, pk_mul, nI_add]
  · have e := hc.1 (6 * i + j) (by omega)
    rw [e]
    have := hp1 i j hi hj ea eb _ rfl hX2
    rw [show i * 6 + j = 6 * i + j by omega] at this
    exact this
theorem r_share {a b x : Int32} (hI : ssI n mk kd tx len R lm ft A Bs wk ev w) (hX : Rel s n mk kd tx len R lm ft A Bs wk ev w)
    (hp1 : ∀ i j, i < n → j < n → a = nI i → b = nI j → ∀ s', s'.cd = 0 → Rel s' n mk kd tx len R lm ft A Bs wk ev w → Q (some (.long (lN (smp (aP (agr mk R) lm n (i * 6 + j)) (aB (agr mk R) lm n i) x)))) s')
    (hp0 : (∀ i j, i < n → j < n → a = nI i → ¬ b = nI j) → ∀ s', s'.cd = 1 → Rel s' n mk kd tx len R lm ft A Bs wk ev w → Q (some (.long (lN 0))) s') : CtM g M_X10_share [.ref x0, .int a, .int b, .int x] x0 s Q := by
  have hn : s.n = n := hX.1
  have hl : s.lm = lm := hX.2.2.2.2.1
  subst hn
  subst hl
  have h6 := hX.2.1.1
  refine CtM.of (by decide +kernel) (Nat.le_of_ble_eq_true rfl) (v_X10_share_0 (m_isState h6 (fun i hi ea => ⟨1, rfl, by decide, (fun z => absurd z (by decide)), fun _ => m_isState h6 (fun j hj eb => ⟨1, rfl, by decide, (fun z => absurd z (by decide)), fun _ => ?_⟩) (fun z => ⟨0, rfl, by decide, fun _ => hp0 (fun i j _ hj _ => z j hj) _ rfl hX.cd, fun q => absurd rfl q⟩)⟩) (fun z => ⟨0, rfl, by decide, fun _ => hp0 (fun i j hi _ ea => absurd ea (z i hi)) _ rfl hX.cd, fun q => absurd rfl q⟩)))
  refine r_countAll hI hX (fun C G hc hX2 => ⟨rfl, ?_⟩)
  rw [ea, eb]
  have hm := aMov (gr := agr mk R) (lm := s.lm) h6.2
  have h1 := (hm.1 i hi).2.2 j hj
  have h2 := (hm.1 i hi).2.1
  have h3 := (hm.1 i hi).1
  have hg : 0 < Nat.gcd (aP (agr mk R) s.lm s.n (i * 6 + j)) (aB (agr mk R) s.lm s.n i) := Nat.gcd_pos_of_pos_right _ h3
  have hgl : Nat.gcd (aP (agr mk R) s.lm s.n (i * 6 + j)) (aB (agr mk R) s.lm s.n i) ≤ aB (agr mk R) s.lm s.n i := Nat.gcd_le_right _ h3
  have fin := hp1 i j hi hj ea eb _ rfl hX2
  unfold smp at fin
  refine m_shareAbove (s := (MV.u_gp (MV.u_ct (MV.u_cd s 0) C) G)) h6 hc hi hj ⟨aP (agr mk R) s.lm s.n (i * 6 + j), rfl, by omega, m_shareBelow (s := (MV.u_gp (MV.u_ct (MV.u_cd s 0) C) G)) h6 hc hi ⟨aB (agr mk R) s.lm s.n i, rfl, by omega, m_divN (by omega) (by omega) ⟨_, rfl, fun q => ⟨fun q2 => ?_, fun q2 => ⟨⟨by omega, hg, by omega⟩, ?_⟩⟩, fun q => ⟨⟨by omega, hg, by omega⟩, ?_⟩⟩⟩⟩
  · rw [if_neg q, if_neg q2] at fin; exact fin
  · rw [if_neg q, if_pos q2] at fin; exact fin
  · rw [if_pos q] at fin; exact fin
theorem r_joined {a b : Int32} (hI : ssI n mk kd tx len R lm ft A Bs wk ev w) (hX : Rel s n mk kd tx len R lm ft A Bs wk ev w)
    (hp1 : ∀ i j, i < n → j < n → a = nI i → b = nI j → ∀ s', Rel s' n mk kd tx len R lm ft A Bs wk ev w → Q (some (.int (nI (if aG (agr mk R) lm n i = aG (agr mk R) lm n j then 1 else 0)))) s')
    (hp0 : (∀ i j, i < n → j < n → a = nI i → ¬ b = nI j) → ∀ s', Rel s' n mk kd tx len R lm ft A Bs wk ev w → Q (some (.int (-1))) s') : CtM g M_X10_joined [.ref x0, .int a, .int b] x0 s Q := by
  have hn : s.n = n := hX.1
  have hl : s.lm = lm := hX.2.2.2.2.1
  subst hn
  subst hl
  have h6 := hX.2.1.1
  refine CtM.of (by decide +kernel) (Nat.le_of_ble_eq_true rfl) (v_X10_joined_0 (m_isState (s := (MV.u_cd s 0)) h6 (fun i hi ea => ⟨1, rfl, by decide, (fun z => absurd z (by decide)), fun _ => m_isState (s := (MV.u_cd s 0)) h6 (fun j hj eb => ⟨1, rfl, by decide, fun _ => ?_, (fun z => absurd z (by decide))⟩) (fun z => ⟨0, rfl, by decide, fun q => absurd rfl q, fun _ => hp0 (fun i j _ hj _ => z j hj) _ hX.cd⟩)⟩) (fun z => ⟨0, rfl, by decide, fun _ => hp0 (fun i j hi _ ea => absurd ea (z i hi)) _ hX.cd, fun q => absurd rfl q⟩)))
  replace hi : i < s.n := hi
  replace hj : j < s.n := hj
  refine r_countAll hI hX (fun C G hc hX2 => ⟨rfl, i, ea, by omega, j, eb, by omega, ⟨hc.2.2 i hi, hc.2.2 j hj⟩, fun q => ?_, fun q => ?_⟩)
  · have fin := hp1 i j hi hj ea eb _ hX2
    rw [if_neg (fun z => q ((hc.2.1 i j hi hj).mpr z))] at fin
    exact fin
  · have fin := hp1 i j hi hj ea eb _ hX2
    rw [if_pos ((hc.2.1 i j hi hj).mp q)] at fin
    exact fin
theorem r_span {a b c d : Int32} (hI : ssI n mk kd tx len R lm ft A Bs wk ev w) (hX : Rel s n mk kd tx len R lm ft A Bs wk ev w)
    (hp1 : ∀ i j p q, i < n → j < n → p < 2 → q < 2 → a = nI i → b = nI j → c = nI p → d = nI q → ∀ s', Rel s' n mk kd tx len R lm ft A Bs wk ev w → Q (some (.long (lN (smp (aC (agr mk R) (i * 6 + j) + 2 * p) (aT (agr mk R) i + 2) (nI q))))) s')
    (hp0 : (∀ i j p q, i < n → j < n → p < 2 → q < 2 → a = nI i → b = nI j → c = nI p → ¬ d = nI q) → ∀ s', Rel s' n mk kd tx len R lm ft A Bs wk ev w → Q (some (.long (-1))) s') : CtM g M_X10_span [.ref x0, .int a, .int b, .int c, .int d] x0 s Q := by
  have hn : s.n = n := hX.1
  subst hn
  have h6 := hX.2.1.1
  refine CtM.of (by decide +kernel) (Nat.le_of_ble_eq_true rfl) (v_X10_span_0 (m_isState (s := (MV.u_cd s 0)) h6 (fun i hi ea => ⟨1, rfl, by decide, (fun z => absurd z (by decide)), fun _ => m_isState (s := (MV.u_cd s 0)) h6 (fun j hj eb => ⟨1, rfl, by decide, (fun z => absurd z (by decide)), fun _ => m_in32 (by decide) (by decide) (fun p _ hp ec => ⟨1, rfl, by decide, (fun z => absurd z (by decide)), fun _ => m_in32 (by decide) (by decide) (fun q _ hq ed => ⟨1, rfl, by decide, fun _ => ?_, (fun z => absurd z (by decide))⟩) (fun z => ⟨0, rfl, by decide, fun q => absurd rfl q, fun _ => hp0 (fun i j p q _ _ _ hq _ _ _ => z q (by omega) (by omega)) _ hX.cd⟩)⟩) (fun z => ⟨0, rfl, by decide, fun _ => hp0 (fun i j p q _ _ hp _ _ _ ec => absurd ec (z p (by omega) (by omega))) _ hX.cd, fun q => absurd rfl q⟩)⟩) (fun z => ⟨0, rfl, by decide, fun _ => hp0 (fun i j p q _ hj _ _ _ eb => absurd eb (z j hj)) _ hX.cd, fun q => absurd rfl q⟩)⟩) (fun z => ⟨0, rfl, by decide, fun _ => hp0 (fun i j p q hi _ _ _ ea => absurd ea (z i hi)) _ hX.cd, fun q => absurd rfl q⟩)))
  replace hi : i < s.n := hi
  replace hj : j < s.n := hj
  refine r_countAll hI hX (fun C G hc hX2 => ⟨rfl, 6 * i + j, ?_, by omega, ?_⟩)
  · rw [ea, eb, pk_mul, nI_add]
  · have e := hc.1 (6 * i + j) (by omega)
    rw [e, ea, ec]
    have hct : aC (agr mk R) (6 * i + j) ≤ 110 := ct_le 110
    have hgl : ∀ u v, u < 120 → agr mk R u = some v → v < s.n := fun u v hu h => bas_lt hX.2.1 hI.2.2.2.2.1 hu h
    have hT : sm (fun b => MV.ct (MV.u_gp (MV.u_ct (MV.u_cd s 0) C) G) (6 * i + b)) (MV.n (MV.u_gp (MV.u_ct (MV.u_cd s 0) C) G)) = aT (agr mk R) i := by
      unfold aT
      rw [← ct_tot hgl 110 (by decide)]
      refine sm_congr fun b hb => ?_
      replace hb : b < s.n := hb
      rw [hc.1 _ (by omega)]
      unfold aC
      rw [show (6 * i + b) / 6 = i by omega, show (6 * i + b) % 6 = b by omega]
    have hTl : aT (agr mk R) i ≤ 110 := tot_le 110
    refine ⟨by omega, m_movesFrom (s := (MV.u_gp (MV.u_ct (MV.u_cd s 0) C) G)) h6.2 (by omega) ⟨_, rfl, ?_⟩⟩
    rw [hT, nI_l (n := p) (by omega), lN_mul, lN_add]
    have hg : 0 < Nat.gcd (aC (agr mk R) (6 * i + j) + 2 * p) (aT (agr mk R) i + 2) := Nat.gcd_pos_of_pos_right _ (by omega)
    have hgl2 : Nat.gcd (aC (agr mk R) (6 * i + j) + 2 * p) (aT (agr mk R) i + 2) ≤ aT (agr mk R) i + 2 := Nat.gcd_le_right _ (by omega)
    have fin := hp1 i j p q hi hj (by omega) (by omega) ea eb ec ed _ hX2
    unfold smp at fin
    rw [show i * 6 + j = 6 * i + j by omega] at fin
    have hq01 : q = 0 ∨ q = 1 := by omega
    refine ⟨by omega, fun z => ?_, fun z => ?_⟩
    · refine m_divN (by omega) (by omega) ⟨_, rfl, ⟨by omega, hg, by omega⟩, ?_⟩
      rcases hq01 with y | y
      · subst y; exact absurd (by rw [ed]; rfl) z
      · subst y
        rw [if_neg (by decide), if_pos rfl] at fin
        exact fin
    · refine m_divN (by omega) (by omega) ⟨_, rfl, lN_ne0 hg (by omega), ?_⟩
      rcases hq01 with y | y
      · subst y
        rw [if_pos (by decide)] at fin
        rw [pk_lDiv (by omega) hg (by omega)]
        exact fin
      · subst y; rw [ed] at z; exact absurd z (by decide)
theorem r_drawn {a b : Int32} {seed : Int64} (hI : ssI n mk kd tx len R lm ft A Bs wk ev w) (hX : Rel s n mk kd tx len R lm ft A Bs wk ev w)
    (hp1 : ∀ t y, t < 10 → y < 12 → a = nI t → b = nI y → ∀ s', Rel s' n mk kd tx len R lm ft A Bs wk ev w → Q (some (.int (nI (drS (aP (agr mk R) lm n) (aB (agr mk R) lm n) n (fstS (agr mk R) kd t) t seed y)))) s')
    (hp0 : (∀ t y, t < 10 → y < 12 → a = nI t → ¬ b = nI y) → ∀ s', Rel s' n mk kd tx len R lm ft A Bs wk ev w → Q (some (.int (-1))) s') : CtM g M_X10_drawn [.ref x0, .long seed, .int a, .int b] x0 s Q := by
  have hn : s.n = n := hX.1
  have hl : s.lm = lm := hX.2.2.2.2.1
  subst hn
  subst hl
  have h6 := hX.2.1.1
  have hk := hX.2.2.1
  refine CtM.of (by decide +kernel) (Nat.le_of_ble_eq_true rfl) (v_X10_drawn_0 (m_isPlace (fun t y ht hy ea eb => ⟨1, rfl, by decide, fun _ => ?_, (fun z => absurd z (by decide))⟩) (fun z => ⟨0, rfl, by decide, (fun q => absurd rfl q), fun _ => hp0 z _ hX.cd⟩)))
  refine r_countAll hI hX (fun C G hc hX2 => ⟨rfl, ?_⟩)
  rw [ea, eb]
  have hkc : fstS (agr mk R) s.kd t = fstS (agr mk R) kd t := by
    have main : ∀ d i, i + d = 10 → fst0 (agr mk R) s.kd t d i = fst0 (agr mk R) kd t d i := by
      intro d
      induction d with
      | zero => intro i _; rfl
      | succ d ih =>
        intro i hi
        unfold fst0
        rw [hk i (by omega), hk t ht, ih (i + 1) (by omega)]
    unfold fstS
    rw [main 10 0 rfl]
  have hgl : ∀ u v, u < 120 → agr mk R u = some v → v < s.n := fun u v hu h => bas_lt hX.2.1 hI.2.2.2.2.1 hu h
  refine m_first (s := (MV.u_gp (MV.u_ct (MV.u_cd s 0) C) G)) hX2.2.1 hI.2.2.2.2.1 ht (fun i hi => ?_) ⟨_, rfl, fstS (agr mk R) kd t, ?_, ?_⟩
  · show s.kd i < _
    rw [hk i hi]
    have := hI.2.2.1 i hi
    omega
  · show nI (fstS (agr mk R) s.kd t) = _
    rw [hkc]
  · exact l_drawn (s := (MV.u_gp (MV.u_ct (MV.u_cd s 0) C) G)) (fstS (agr mk R) kd t) h6 hc hy (fstS_lt (by show 0 < s.n; omega) ht hgl) (hp1 t y ht hy ea eb _ hX2) y 0 (by omega)
end M12
