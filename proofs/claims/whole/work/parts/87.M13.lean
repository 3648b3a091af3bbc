/-! the reference: two persons compared -/
section M13
variable {g : xG} {Q : mQ} {P : pQ} {s : MV} {x0 : Nat} {n len lm ft : Nat} {mk : Nat → Option Nat} {kd tx A Bs : Nat → Nat} {R : Rl} {wk ev : Tr} {w : Nat → Int}
abbrev agA (mk : Nat → Option Nat) (a b q : Nat) : Bool := (mk (q * 4 + a)).isSome && (mk (q * 4 + a) == mk (q * 4 + b))
theorem oI_inj {o o' : Option Nat} (h : ∀ v, o = some v → v < 2 ^ 31) (h' : ∀ v, o' = some v → v < 2 ^ 31) (e : oI o = oI o') : o = o' := by
  match o, o', h, h', e with
  | none, none, _, _, _ => rfl
  | none, some v, _, h', e => exact absurd e.symm (nI_ne_m1 (h' v rfl))
  | some v, none, h, _, e => exact absurd e (nI_ne_m1 (h v rfl))
  | some v, some u, h, h', e => exact congrArg some ((nI_eq (h v rfl) (h' u rfl)).mp e)
theorem r_agree {a b c : Int32} (hI : ssI n mk kd tx len R lm ft A Bs wk ev w) (hX : Rel s n mk kd tx len R lm ft A Bs wk ev w)
    (hp1 : ∀ i j k, i < 4 → j < 4 → ¬ i = j → k < 2 → a = nI i → b = nI j → c = nI k → ∀ s', Rel s' n mk kd tx len R lm ft A Bs wk ev w → Q (some (.long (if agM mk i j * agM mk i j - agE mk i j n = 0 then lN 0 else agR (agM mk i j * sm (fun k => agS mk i j k) n) (agE mk i j n) (agM mk i j * agM mk i j - agE mk i j n) (nI k)))) s')
    (hp0 : (∀ i j k, i < 4 → j < 4 → ¬ i = j → k < 2 → a = nI i → b = nI j → ¬ c = nI k) → ∀ s', Rel s' n mk kd tx len R lm ft A Bs wk ev w → Q (some (.long (-1))) s') : CtM g M_X10_agree [.ref x0, .int a, .int b, .int c] x0 s Q := by
  have hn : s.n = n := hX.1
  subst hn
  have h6 := hX.2.1.1
  have hm := hX.2.1.2.1
  have hml := hX.2.1.2.2.1
  have hml' : ∀ i v, i < 480 → mk i = some v → v < 2 ^ 31 := fun i v hi h => by have := hml i v hi h; omega
  refine CtM.of (by decide +kernel) (Nat.le_of_ble_eq_true rfl) (v_X10_agree_0 (m_in32 (by decide) (by decide) (fun i _ hi ea => ⟨1, rfl, by decide, (fun z => absurd z (by decide)), fun _ => m_in32 (by decide) (by decide) (fun j _ hj eb => ⟨1, rfl, by decide, (fun z => absurd z (by decide)), fun _ => ⟨fun e => hp0 (fun i j k hi hj hij _ ea eb => absurd ((nI_eq (by omega) (by omega)).mp (ea.symm.trans (e.trans eb))) hij) _ hX.cd, fun e => m_in32 (by decide) (by decide) (fun k _ hk ec => ⟨1, rfl, by decide, fun _ => ?_, (fun z => absurd z (by decide))⟩) (fun z => ⟨0, rfl, by decide, fun q => absurd rfl q, fun _ => hp0 (fun i j k _ _ _ hk _ _ => z k (by omega) (by omega)) _ hX.cd⟩)⟩⟩) (fun z => ⟨0, rfl, by decide, fun _ => hp0 (fun i j k _ hj _ _ _ eb => absurd eb (z j (by omega) (by omega))) _ hX.cd, fun q => absurd rfl q⟩)⟩) (fun z => ⟨0, rfl, by decide, fun _ => hp0 (fun i j k hi _ _ _ ea => absurd ea (z i (by omega) (by omega))) _ hX.cd, fun q => absurd rfl q⟩)))
  have hij : ¬ i = j := fun z => e (by rw [ea, eb, z])
  have fin := hp1 i j k (by omega) (by omega) hij (by omega) ea eb ec (MV.u_cd s 0) (hX.cd (v := 0))
  have eS : sm (fun k => agS mk i j k) s.n = cnt (agA mk i j) 120 := cnt_samR (by omega) hml 120 (Nat.le_refl _)
  have bM : agM mk i j ≤ 120 := cnt_le 120
  have bS := agS_sum (mk := mk) (a := i) (b := j) (n := s.n)
  have bE := agE_le (mk := mk) (a := i) (b := j) (n := s.n)
  rw [eS] at bS fin
  have bMM : agM mk i j * agM mk i j ≤ 120 * 120 := Nat.mul_le_mul bM bM
  have bMS : agM mk i j * cnt (agA mk i j) 120 ≤ 120 * 120 := Nat.mul_le_mul bM bS
  have bD : dst (agM mk i j * cnt (agA mk i j) 120) (agE mk i j s.n) ≤ 20000 := by unfold dst; split <;> omega
  rw [ea, eb, ec]
  have mI : ∀ q, q < 120 → s.mk (q * 4 + i) = oI (mk (q * 4 + i)) := fun q hq => hm _ (by omega)
  have mJ : ∀ q, q < 120 → s.mk (q * 4 + j) = oI (mk (q * 4 + j)) := fun q hq => hm _ (by omega)
  have hz : ∀ q l, q < 120 → l < 4 → (oI (mk (q * 4 + l)) = -1 ↔ (mk (q * 4 + l)).isSome = false) := by
    intro q l hq hl
    rw [oI_m1 (fun v h => hml' _ v (by omega) h)]
    cases mk (q * 4 + l) <;> simp
  have hsaw : ∀ q l v, q < 120 → l < 4 → v < 6 → (oI (mk (q * 4 + l)) = nI v ↔ saw mk l v q = true) := by
    intro q l v hq hl hv
    unfold saw
    rw [beq_iff_eq]
    constructor
    · intro h
      exact oI_inj (o' := some v) (fun v h => hml' _ v (by omega) h) (fun u h => by have := Option.some.inj h; omega) h
    · intro h; rw [h]; rfl
  have l3 : ∀ (d z : Nat), z + d = s.n → BlkM g M_X10_agree x0 Q 147 [(0, .ref x0), (1, .int (nI i)), (2, .int (nI j)), (3, .int (nI k)), (4, .long (lN (agM mk i j))), (6, .long (lN (cnt (agA mk i j) 120))), (8, .long (lN (agE mk i j z))), (10, .int (nI z))] [] (MV.u_cd s 0) := by
    intro d
    induction d with
    | zero =>
      intro z hz'
      have : z = s.n := by omega
      subst this
      refine v_X10_agree_147 ⟨⟨by omega, by show s.n < _; omega⟩, fun _ => ⟨bE, ⟨by omega, by decide⟩, fun q => ⟨fun q2 => ?_, fun q2 => ?_⟩, fun q => ?_⟩, fun q => absurd q (by show ¬ s.n < s.n; omega)⟩
      · rw [if_neg q] at fin
        unfold agR at fin
        rw [if_neg q2] at fin
        have hg : 0 < Nat.gcd (dst (agM mk i j * cnt (agA mk i j) 120) (agE mk i j s.n)) (agM mk i j * agM mk i j - agE mk i j s.n) := Nat.gcd_pos_of_pos_right _ (by omega)
        have hgl := Nat.gcd_le_right (dst (agM mk i j * cnt (agA mk i j) 120) (agE mk i j s.n)) (n := agM mk i j * agM mk i j - agE mk i j s.n) (by omega)
        refine m_divisor (i_absm (by omega) (by omega)) (by omega) (by omega) ⟨_, rfl, ⟨by omega, hg, by omega⟩, ?_⟩
        unfold smp at fin
        have hk1 : k = 1 := by
          have : k = 0 ∨ k = 1 := by omega
          rcases this with y | y
          · subst y; exact absurd rfl q2
          · exact y
        subst hk1
        rw [if_neg (by decide), if_pos rfl] at fin
        exact fin
      · rw [if_neg q] at fin
        unfold agR at fin
        rw [if_pos q2] at fin
        have hg : 0 < Nat.gcd (dst (agM mk i j * cnt (agA mk i j) 120) (agE mk i j s.n)) (agM mk i j * agM mk i j - agE mk i j s.n) := Nat.gcd_pos_of_pos_right _ (by omega)
        have hgl := Nat.gcd_le_right (dst (agM mk i j * cnt (agA mk i j) 120) (agE mk i j s.n)) (n := agM mk i j * agM mk i j - agE mk i j s.n) (by omega)
        exact m_divisor (i_absm (by omega) (by omega)) (by omega) (by omega) ⟨_, rfl, lN_ne0 hg (by omega), fin⟩
      · rw [if_pos q] at fin
        exact fin
    | succ d ih =>
      intro z hz'
      have nx := ih (z + 1) (by omega)
      have eE : agE mk i j (z + 1) = agE mk i j z + agO mk i j z * agO mk j i z := rfl
      rw [eE] at nx
      have inner : ∀ (f q : Nat), q + f = 120 → BlkM g M_X10_agree x0 Q 165 [(0, .ref x0), (1, .int (nI i)), (2, .int (nI j)), (3, .int (nI k)), (4, .long (lN (agM mk i j))), (6, .long (lN (cnt (agA mk i j) 120))), (8, .long (lN (agE mk i j z))), (10, .int (nI z)), (11, .long (lN (cnt (fun q => both mk i j q && saw mk i z q) q))), (13, .long (lN (cnt (fun q => both mk j i q && saw mk j z q) q))), (15, .int (nI q))] [] (MV.u_cd s 0) := by
        intro f
        induction f with
        | zero =>
          intro q hf
          have : q = 120 := by omega
          subst this
          exact v_X10_agree_165 ⟨⟨by decide, by decide⟩, fun _ => nx, fun y => absurd y (by decide)⟩
        | succ f ihf =>
          intro q hf
          have nq := ihf (q + 1) (by omega)
          rw [cnt_s (f := fun q => both mk i j q && saw mk i z q) (q := q), cnt_s (f := fun q => both mk j i q && saw mk j z q) (q := q)] at nq
          have e1 : nI (4 * q) + nI i = nI (q * 4 + i) := by rw [nI_add]; congr 1; omega
          have e2 : nI (4 * q) + nI j = nI (q * 4 + j) := by rw [nI_add]; congr 1; omega
          have f1 : MV.mk (MV.u_cd s 0) (q * 4 + i) = oI (mk (q * 4 + i)) := mI q (by omega)
          have f2 : MV.mk (MV.u_cd s 0) (q * 4 + j) = oI (mk (q * 4 + j)) := mJ q (by omega)
          refine v_X10_agree_165 ⟨⟨by omega, by decide⟩, fun y => absurd y (by omega), fun _ => ⟨q * 4 + i, e1, by omega, ?_⟩⟩
          rw [f1]
          refine ⟨fun y => ?_, fun y => ⟨q * 4 + j, e2, by omega, ?_⟩⟩
          · have y' := (hz q i (by omega) (by omega)).mp y
            rw [if_neg (by rw [show both mk i j q = false by unfold both; rw [y']; rfl]; simp), if_neg (by rw [show both mk j i q = false by unfold both; rw [y']; simp]; simp)] at nq
            exact nq
          · rw [f2]
            refine ⟨fun y2 => ?_, fun y2 => ⟨q * 4 + i, e1, by omega, ?_⟩⟩
            · have y' := (hz q j (by omega) (by omega)).mp y2
              rw [if_neg (by rw [show both mk i j q = false by unfold both; rw [y']; simp]; simp), if_neg (by rw [show both mk j i q = false by unfold both; rw [y']; rfl]; simp)] at nq
              exact nq
            · have y1' : (mk (q * 4 + i)).isSome = true := by
                cases h : (mk (q * 4 + i)).isSome
                · exact absurd ((hz q i (by omega) (by omega)).mpr h) y
                · rfl
              have y2' : (mk (q * 4 + j)).isSome = true := by
                cases h : (mk (q * 4 + j)).isSome
                · exact absurd ((hz q j (by omega) (by omega)).mpr h) y2
                · rfl
              have b1 : both mk i j q = true := by unfold both; rw [y1', y2']; rfl
              have b2 : both mk j i q = true := by unfold both; rw [y1', y2']; rfl
              rw [b1, b2, Bool.true_and, Bool.true_and] at nq
              rw [f1]
              refine ⟨fun y3 => ⟨q * 4 + j, e2, by omega, ?_⟩, fun y3 => ⟨q * 4 + j, e2, by omega, ?_⟩⟩
              · rw [if_neg (fun h => y3 ((hsaw q i z (by omega) (by omega) (by omega)).mpr h))] at nq
                rw [f2]
                refine ⟨fun y4 => ?_, fun y4 => ?_⟩
                · rw [if_neg (fun h => y4 ((hsaw q j z (by omega) (by omega) (by omega)).mpr h))] at nq; exact nq
                · rw [if_pos ((hsaw q j z (by omega) (by omega) (by omega)).mp y4)] at nq; exact nq
              · rw [if_pos ((hsaw q i z (by omega) (by omega) (by omega)).mp y3)] at nq
                rw [f2]
                refine ⟨fun y4 => ?_, fun y4 => ?_⟩
                · rw [if_neg (fun h => y4 ((hsaw q j z (by omega) (by omega) (by omega)).mpr h))] at nq; exact nq
                · rw [if_pos ((hsaw q j z (by omega) (by omega) (by omega)).mp y4)] at nq; exact nq
      exact v_X10_agree_147 ⟨⟨by omega, by show s.n < _; omega⟩, fun q => absurd q (by show ¬ s.n ≤ z; omega), fun _ => inner 120 0 (by decide)⟩
  have l1 : ∀ (f q : Nat), q + f = 120 → BlkM g M_X10_agree x0 Q 57 [(0, .ref x0), (1, .int (nI i)), (2, .int (nI j)), (3, .int (nI k)), (4, .long (lN (cnt (both mk i j) q))), (6, .long (lN (cnt (agA mk i j) q))), (8, .int (nI q))] [] (MV.u_cd s 0) := by
    intro f
    induction f with
    | zero =>
      intro q hf
      have : q = 120 := by omega
      subst this
      exact v_X10_agree_57 ⟨⟨by decide, by decide⟩, fun _ => l3 s.n 0 (by omega), fun y => absurd y (by decide)⟩
    | succ f ihf =>
      intro q hf
      have nq := ihf (q + 1) (by omega)
      rw [cnt_s (f := both mk i j) (q := q), cnt_s (f := agA mk i j) (q := q)] at nq
      have e1 : nI (4 * q) + nI i = nI (q * 4 + i) := by rw [nI_add]; congr 1; omega
      have e2 : nI (4 * q) + nI j = nI (q * 4 + j) := by rw [nI_add]; congr 1; omega
      have f1 : MV.mk (MV.u_cd s 0) (q * 4 + i) = oI (mk (q * 4 + i)) := mI q (by omega)
      have f2 : MV.mk (MV.u_cd s 0) (q * 4 + j) = oI (mk (q * 4 + j)) := mJ q (by omega)
      have same' : oI (mk (q * 4 + i)) = oI (mk (q * 4 + j)) ↔ mk (q * 4 + i) = mk (q * 4 + j) := ⟨fun h => oI_inj (fun v h => hml' _ v (by omega) h) (fun v h => hml' _ v (by omega) h) h, fun h => by rw [h]⟩
      refine v_X10_agree_57 ⟨⟨by omega, by decide⟩, fun y => absurd y (by omega), fun _ => ⟨q * 4 + i, e1, by omega, q * 4 + j, e2, by omega, ?_⟩⟩
      rw [f1, f2]
      refine ⟨fun y => ⟨fun _ => ?_, fun z => absurd y z⟩, fun y => ?_⟩
      · have y' := (hz q i (by omega) (by omega)).mp y
        rw [if_neg (by rw [show both mk i j q = false by unfold both; rw [y']; rfl]; simp), if_neg (by rw [show agA mk i j q = false by unfold agA; rw [y']; rfl]; simp)] at nq
        exact nq
      · have y1' : (mk (q * 4 + i)).isSome = true := by
          cases h : (mk (q * 4 + i)).isSome
          · exact absurd ((hz q i (by omega) (by omega)).mpr h) y
          · rfl
        have aE : agA mk i j q = true ↔ mk (q * 4 + i) = mk (q * 4 + j) := by
          unfold agA
          rw [y1', Bool.true_and, beq_iff_eq]
        refine ⟨fun y2 => ⟨fun z => absurd z y, fun _ => ?_⟩, fun y2 => ⟨fun z => absurd z y, fun _ => ?_⟩⟩
        · have y' := (hz q j (by omega) (by omega)).mp y2
          rw [if_neg (by rw [show both mk i j q = false by unfold both; rw [y']; simp]; simp)] at nq
          refine ⟨fun y3 => ?_, fun y3 => ?_⟩
          · rw [if_neg (fun h => y3 (same'.mpr (aE.mp h)))] at nq; exact nq
          · rw [if_pos (aE.mpr (same'.mp y3))] at nq; exact nq
        · have y2' : (mk (q * 4 + j)).isSome = true := by
            cases h : (mk (q * 4 + j)).isSome
            · exact absurd ((hz q j (by omega) (by omega)).mpr h) y2
            · rfl
          have b1 : both mk i j q = true := by unfold both; rw [y1', y2']; rfl
          rw [if_pos b1] at nq
          refine ⟨fun y3 => ?_, fun y3 => ?_⟩
          · rw [if_neg (fun h => y3 (same'.mpr (aE.mp h)))] at nq; exact nq
          · rw [if_pos (aE.mpr (same'.mp y3))] at nq; exact nq
  exact l1 120 0 (by decide)
end M13
