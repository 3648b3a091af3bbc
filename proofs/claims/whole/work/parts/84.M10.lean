/-! the reference: shares, divisor, first state -/
theorem lN_shl31 (a : Nat) : (lN a) <<< ((nI 31).toInt64 &&& 63) = lN (a * 2147483648) := by
  apply Int64.toBitVec_inj.mp
  rw [Int64.toBitVec_shiftLeft]
  have h3 : ((nI 31).toInt64 &&& 63).toBitVec.smod 64 = 31#64 := by decide
  rw [h3]
  have h1 : (lN a).toBitVec = BitVec.ofNat 64 a := Int64.toBitVec_ofNat' ..
  have h2 : (lN (a * 2147483648)).toBitVec = BitVec.ofNat 64 (a * 2147483648) := Int64.toBitVec_ofNat' ..
  rw [h1, h2]
  apply BitVec.eq_of_toNat_eq
  rw [BitVec.shiftLeft_eq', BitVec.toNat_shiftLeft, BitVec.toNat_ofNat, BitVec.toNat_ofNat, BitVec.toNat_ofNat, Nat.shiftLeft_eq]
  have h4 : 31 % 2 ^ 64 = 31 := by decide
  rw [h4]
  omega
section M10
variable {g : xG} {Q : mQ} {P : pQ} {s : MV} {x0 : Nat}
theorem m_shifted {a b : Nat} {gr : Nat → Option Nat} (hn : 2 ≤ s.n ∧ s.n ≤ 6) (hc : curM s gr) (ha : a < s.n) (hb : b < s.n) (hp : Q (some (.int (nI (mg (aC gr) (aG gr s.lm s.n) s.n a b s.n)))) s) : CtM g M_X10_shifted [.ref x0, .int (nI a), .int (nI b - nI a)] x0 s Q := by
  obtain ⟨c1, c2, c3⟩ := hc
  have main : ∀ (d k : Nat), k + d = s.n → BlkM g M_X10_shifted x0 Q 5 [(0, .ref x0), (1, .int (nI a)), (2, .int (nI b - nI a)), (3, .int (nI (mg (aC gr) (aG gr s.lm s.n) s.n a b k))), (4, .int (nI k))] [] s := by
    intro d
    induction d with
    | zero =>
      intro k hk
      have : k = s.n := by omega
      subst this
      exact v_X10_shifted_5 ⟨⟨by omega, by omega⟩, fun _ => hp, fun q => absurd q (by omega)⟩
    | succ d ih =>
      intro k hk
      have nx := ih (k + 1) (by omega)
      rw [mg_s] at nx
      refine v_X10_shifted_5 ⟨⟨by omega, by omega⟩, fun q => absurd q (by omega), fun _ => ⟨by omega, by omega, ⟨c3 k (by omega), c3 a ha⟩, fun q => ?_, fun q => ?_⟩⟩
      · rw [if_neg (fun z => q ((c2 k a (by omega) ha).mpr z.1))] at nx
        exact nx
      · have hG := (c2 k a (by omega) ha).mp q
        refine m_isState hn (fun t ht e => ⟨1, rfl, by decide, (fun z => absurd z (by decide)), fun _ => ?_⟩) (fun z => ⟨0, rfl, by decide, fun _ => ?_, fun q => absurd rfl q⟩)
        · have e2 : k + b = t + a := by
            have h1 : nI k + (nI b - nI a) + nI a = nI t + nI a := by rw [e]
            have h2 : nI k + (nI b - nI a) + nI a = nI k + nI b := by grind
            rw [h2, nI_add, nI_add] at h1
            exact (nI_eq (by omega) (by omega)).mp h1
          have e3 : nI (6 * k + k) + (nI b - nI a) = nI (6 * k + t) := by
            have h1 : nI (6 * k + k) = nI (6 * k) + nI k := (nI_add _ _).symm
            have h2 : nI (6 * k + t) = nI (6 * k) + nI t := (nI_add _ _).symm
            rw [h1, h2, ← e]
            grind
          refine ⟨6 * k + t, e3, by omega, ?_⟩
          rw [if_pos ⟨hG, by omega, by omega⟩] at nx
          rw [c1 _ (by omega)]
          have e4 : k * 6 + (k + b - a) = 6 * k + t := by omega
          rw [e4] at nx
          exact nx
        · rw [if_neg (fun y => z (k + b - a) y.2.2 ?_)] at nx
          · exact nx
          · have h1 : nI (k + b - a) = nI (k + b) - nI a := (pk_sub y.2.1).symm
            rw [h1, ← nI_add]
            grind
  exact CtM.of (by decide +kernel) (Nat.le_of_ble_eq_true rfl) (v_X10_shifted_0 (main _ 0 (Nat.zero_add _)))
theorem m_shareTotal {a : Nat} {gr : Nat → Option Nat} (hn : 2 ≤ s.n ∧ s.n ≤ 6) (hc : curM s gr) (ha : a < s.n) (hp : Q (some (.int (nI (bt (aC gr) (aG gr s.lm s.n) s.n a)))) s) : CtM g M_X10_shareTotal [.ref x0, .int (nI a)] x0 s Q := by
  have main : ∀ (d k : Nat), k + d = s.n → BlkM g M_X10_shareTotal x0 Q 4 [(0, .ref x0), (1, .int (nI a)), (2, .int (nI (sm (fun b => mg (aC gr) (aG gr s.lm s.n) s.n a b s.n) k))), (3, .int (nI k))] [] s := by
    intro d
    induction d with
    | zero =>
      intro k hk
      have : k = s.n := by omega
      subst this
      exact v_X10_shareTotal_4 ⟨⟨by omega, by omega⟩, fun _ => hp, fun q => absurd q (by omega)⟩
    | succ d ih =>
      intro k hk
      exact v_X10_shareTotal_4 ⟨⟨by omega, by omega⟩, fun q => absurd q (by omega), fun _ => m_shifted hn hc ha (by omega) ⟨_, rfl, ih (k + 1) (by omega)⟩⟩
  exact CtM.of (by decide +kernel) (Nat.le_of_ble_eq_true rfl) (v_X10_shareTotal_0 (main _ 0 (Nat.zero_add _)))
theorem bt_110 {gr : Nat → Option Nat} {lm n a : Nat} (hn : n ≤ 6) : bt (aC gr) (aG gr lm n) n a ≤ 110 := by
  have h1 := bt_le (C := aC gr) (G := aG gr lm n) (n := n) (a := a) hn
  have h3 : sm (aC gr) 36 ≤ 110 := ct_sum (gr := gr) 110
  omega
theorem aP_at {gr : Nat → Option Nat} {lm n a b : Nat} (hb : b < 6) : aP gr lm n (a * 6 + b) = shT (aC gr) (aG gr lm n) n a b := by
  unfold aP
  rw [show (a * 6 + b) / 6 = a by omega, show (a * 6 + b) % 6 = b by omega]
theorem m_shareAbove {a b : Nat} {gr : Nat → Option Nat} (hn : 2 ≤ s.n ∧ s.n ≤ 6) (hc : curM s gr) (ha : a < s.n) (hb : b < s.n) (hp : Q (some (.int (nI (aP gr s.lm s.n (a * 6 + b))))) s) : CtM g M_X10_shareAbove [.ref x0, .int (nI a), .int (nI b)] x0 s Q := by
  have hb1 := bt_110 (gr := gr) (lm := s.lm) (a := a) hn.2
  rw [aP_at (by omega)] at hp
  unfold shT at hp
  refine CtM.of (by decide +kernel) (Nat.le_of_ble_eq_true rfl) (v_X10_shareAbove_0 (m_shareTotal hn hc ha ⟨_, rfl, by omega, fun q => ?_, fun q => ⟨⟨by omega, by omega⟩, fun q2 => ?_, fun q2 => ?_⟩⟩))
  · rw [if_neg q] at hp
    exact m_shifted hn hc ha hb ⟨_, rfl, hp⟩
  · rw [if_pos q, if_neg (fun z => q2 z.symm)] at hp
    exact hp
  · rw [if_pos q, if_pos q2.symm] at hp
    exact hp
theorem m_shareBelow {a : Nat} {gr : Nat → Option Nat} (hn : 2 ≤ s.n ∧ s.n ≤ 6) (hc : curM s gr) (ha : a < s.n) (hp : Q (some (.int (nI (aB gr s.lm s.n a)))) s) : CtM g M_X10_shareBelow [.ref x0, .int (nI a)] x0 s Q := by
  have hb1 := bt_110 (gr := gr) (lm := s.lm) (a := a) hn.2
  unfold aB at hp
  refine CtM.of (by decide +kernel) (Nat.le_of_ble_eq_true rfl) (v_X10_shareBelow_0 (m_shareTotal hn hc ha ⟨_, rfl, by omega, fun q => ?_, fun q => ?_⟩))
  · rw [Nat.max_eq_right (by omega)] at hp
    exact m_shareTotal hn hc ha ⟨_, rfl, hp⟩
  · rw [q] at hp
    exact hp
theorem l_dvr {G : Nat} (hp : P (some (.long (lN G)))) : ∀ (w a b : Nat), b ≤ w → a < 2 ^ 63 → b < 2 ^ 63 → Nat.gcd a b = G → BlkP g M_X10_divisor P 28 [(4, .long (lN a)), (6, .long (lN b))] [] := by
  intro w
  induction w with
  | zero =>
    intro a b hw ha hb hG
    have : b = 0 := by omega
    subst this
    rw [Nat.gcd_zero_right] at hG
    subst hG
    exact v_X10_divisor_28 ⟨⟨by decide, by decide⟩, fun _ => hp, fun q => absurd rfl q⟩
  | succ w ih =>
    intro a b hw ha hb hG
    refine v_X10_divisor_28 ⟨⟨hb, by decide⟩, fun q => ?_, fun q => ⟨⟨ha, by omega, hb⟩, ih b (a % b) ?_ hb ?_ ?_⟩⟩
    · subst q
      rw [Nat.gcd_zero_right] at hG
      subst hG
      exact hp
    · have := Nat.mod_lt a (show b > 0 by omega)
      omega
    · have := Nat.mod_lt a (show b > 0 by omega)
      omega
    · rw [← hG, Nat.gcd_comm b, ← Nat.gcd_rec, Nat.gcd_comm]
theorem m_divisor {x : Int64} {a b : Nat} (ha : (if lN 0 ≤ x then x else -x) = lN a) (ha2 : a < 2 ^ 63) (hb : b < 2 ^ 63) (hp : P (some (.long (lN (Nat.gcd a b))))) : CtP g M_X10_divisor [.long x, .long (lN b)] P := by
  have hb0 : lN 0 ≤ lN b := (pk_lLE (by decide) hb).mpr (Nat.zero_le _)
  refine CtP.of (by decide +kernel) (Nat.le_of_ble_eq_true rfl) (v_X10_divisor_0 ⟨fun q => ⟨fun _ => ⟨a, ?_, b, rfl, l_dvr hp b a b (Nat.le_refl _) ha2 hb rfl⟩, fun z => absurd hb0 z⟩, fun q => ⟨fun _ => ⟨a, ?_, b, rfl, l_dvr hp b a b (Nat.le_refl _) ha2 hb rfl⟩, fun z => absurd hb0 z⟩⟩)
  · rw [if_pos q] at ha; exact ha
  · rw [if_neg q] at ha; exact ha
theorem m_divN {a b : Nat} (ha2 : a < 2 ^ 63) (hb : b < 2 ^ 63) (hp : P (some (.long (lN (Nat.gcd a b))))) : CtP g M_X10_divisor [.long (lN a), .long (lN b)] P :=
  m_divisor (if_pos ((pk_lLE (by decide) ha2).mpr (Nat.zero_le _))) ha2 hb hp
theorem m_first {t : Nat} {mk : Nat → Option Nat} {R : Rl} (hB : bas s mk R) (hR : rlOK s.n R) (ht : t < 10) (hkd : ∀ i, i < 10 → s.kd i < 2 ^ 31) (hp : Q (some (.int (nI (fstS (agr mk R) s.kd t)))) s) : CtM g M_X10_first [.ref x0, .int (nI t)] x0 s Q := by
  have b1 := hB.1
  have hgl : ∀ i v, i < 120 → agr mk R i = some v → v < s.n := fun i v hi h => bas_lt hB hR hi h
  have fin : ∀ (v i : Nat), v < s.n → i ≤ 10 → Q (some (.int (nI v))) s → BlkM g M_X10_first x0 Q 9 [(0, .ref x0), (1, .int (nI t)), (2, .int (nI v)), (3, .int (nI i))] [] s := by
    intro v i hv hi hq
    have hne := nI_ne_m1 (s := v) (by omega)
    exact v_X10_first_9 ⟨⟨by omega, by decide⟩, fun _ => ⟨fun _ => hq, fun z => absurd z hne⟩, fun _ => ⟨fun _ => ⟨fun _ => hq, fun z => absurd z hne⟩, fun z => absurd z hne⟩⟩
  have main : ∀ (d i : Nat), i + d = 10 → Q (some (.int (nI (fst0 (agr mk R) s.kd t d i)))) s → BlkM g M_X10_first x0 Q 9 [(0, .ref x0), (1, .int (nI t)), (2, .int (-1)), (3, .int (nI i))] [] s := by
    intro d
    induction d with
    | zero =>
      intro i hi hq
      exact v_X10_first_9 ⟨⟨by omega, by decide⟩, fun _ => ⟨fun z => absurd rfl z, fun _ => hq⟩, fun z => absurd z (by omega)⟩
    | succ d ih =>
      intro i hi hq
      unfold fst0 at hq
      refine v_X10_first_9 ⟨⟨by omega, by decide⟩, fun z => absurd z (by omega), fun _ => ⟨fun z => absurd rfl z, fun _ => ⟨by omega, ht, ⟨hkd i (by omega), hkd t ht⟩, fun q => ?_, fun q => ?_⟩⟩⟩
      · rw [if_neg q] at hq
        exact ih (i + 1) (by omega) hq
      · rw [if_pos q] at hq
        refine g_gradeOf hB (by omega) (by decide) ⟨_, rfl, ?_⟩
        rw [Nat.add_zero]
        match z : agr mk R (i * 12) with
        | none => rw [z] at hq; exact ih (i + 1) (by omega) hq
        | some v => rw [z] at hq; exact fin v (i + 1) (hgl _ v (by omega) z) (by omega) hq
  refine CtM.of (by decide +kernel) (Nat.le_of_ble_eq_true rfl) (v_X10_first_0 (g_gradeOf hB ht (by decide) ⟨_, rfl, ?_⟩))
  rw [Nat.add_zero]
  unfold fstS at hp
  match z : agr mk R (t * 12) with
  | none => rw [z] at hp; exact main 10 0 rfl hp
  | some v => rw [z] at hp; exact fin v 0 (hgl _ v (by omega) z) (by omega) hp
theorem l_drawn {t Y : Nat} {seed : Int64} {gr : Nat → Option Nat} (s0 : Nat) (hn : 2 ≤ s.n ∧ s.n ≤ 6) (hc : curM s gr) (hY : Y < 12) (hs0 : s0 < s.n) (hp : Q (some (.int (nI (drS (aP gr s.lm s.n) (aB gr s.lm s.n) s.n s0 t seed Y)))) s) : ∀ (d i : Nat), i + d = Y → BlkM g M_X10_drawn x0 Q 31 [(0, .ref x0), (1, .long seed), (3, .int (nI t)), (4, .int (nI Y)), (5, .int (nI (drS (aP gr s.lm s.n) (aB gr s.lm s.n) s.n s0 t seed i))), (6, .int (nI i))] [] s := by
  have hst : ∀ i, drS (aP gr s.lm s.n) (aB gr s.lm s.n) s.n s0 t seed i < s.n := by
    intro i
    cases i with
    | zero => exact hs0
    | succ i => exact glF_lt (by omega)
  have hP : ∀ f b, f < s.n → b < s.n → aP gr s.lm s.n (f * 6 + b) ≤ 110 := by
    intro f b hf hb
    have h1 := ((aMov (gr := gr) (lm := s.lm) hn.2).1 f hf).2.2 b hb
    have h2 := ((aMov (gr := gr) (lm := s.lm) hn.2).1 f hf).2.1
    omega
  intro d
  induction d with
  | zero =>
    intro i hi
    have : i = Y := by omega
    subst this
    exact v_X10_drawn_31 ⟨fun _ => hp, fun z => absurd (Int32.le_refl _) z⟩
  | succ d ih =>
    intro i hi
    have nx := ih (i + 1) (by omega)
    have hf := hst i
    have hB := aB_ok (lm := s.lm) (f := drS (aP gr s.lm s.n) (aB gr s.lm s.n) s.n s0 t seed i) (gr := gr) hn.2
    refine v_X10_drawn_31 ⟨fun z => absurd z (nI_ge (by omega) (by omega)), fun _ => ⟨by omega, m_shareAbove hn hc hf (by omega) ⟨_, rfl, ?_, ?_⟩⟩⟩
    · have := hP _ 0 hf (by omega)
      omega
    · have edr : ((((((((seed + ((lN 1000003) * ((nI t).toInt64))) + (lN (7919 * i))) * (lN 6364136223846793005)) + (lN 1442695040888963407)) * (lN 6364136223846793005)) + (lN 1442695040888963407)).toUInt64 >>> ((nI 33).toInt64.toUInt64 &&& Int64.toUInt64 63)).toInt64) = drw seed (nI t) (nI i) := by
        unfold drw
        rw [nI_l (n := i) (by omega), lN_mul]
      rw [edr]
      have gl : ∀ (w k : Nat), k + w + 1 = s.n → (∀ u, u < k → glc (aP gr s.lm s.n) (aB gr s.lm s.n) (drS (aP gr s.lm s.n) (aB gr s.lm s.n) s.n s0 t seed i) (drw seed (nI t) (nI i)) u) → BlkM g M_X10_drawn x0 Q 100 [(0, .ref x0), (1, .long seed), (3, .int (nI t)), (4, .int (nI Y)), (5, .int (nI (drS (aP gr s.lm s.n) (aB gr s.lm s.n) s.n s0 t seed i))), (6, .int (nI i)), (9, .long (drw seed (nI t) (nI i))), (11, .int (nI k)), (12, .long (lN (sm (fun u => aP gr s.lm s.n (drS (aP gr s.lm s.n) (aB gr s.lm s.n) s.n s0 t seed i * 6 + u)) (k + 1))))] [] s := by
        intro w
        induction w with
        | zero =>
          intro k hk hg
          have e : drS (aP gr s.lm s.n) (aB gr s.lm s.n) s.n s0 t seed (i + 1) = k := glF_eq (by omega) hg (Or.inr (by omega))
          rw [e] at nx
          exact v_X10_drawn_100 ⟨by omega, ⟨by omega, by omega⟩, fun _ => nx, fun z => absurd z (by omega)⟩
        | succ w ihw =>
          intro k hk hg
          refine v_X10_drawn_100 ⟨by omega, ⟨by omega, by omega⟩, fun z => absurd z (by omega), fun _ => m_shareBelow hn hc hf ⟨_, rfl, by omega, fun q => ?_, fun q => m_shareAbove hn hc hf (by omega) ⟨_, rfl, ?_, ?_⟩⟩⟩
          · have e : drS (aP gr s.lm s.n) (aB gr s.lm s.n) s.n s0 t seed (i + 1) = k := by
              refine glF_eq (by omega) hg (Or.inl (fun y => ?_))
              unfold glc at y
              rw [lN_shl31] at y
              exact Int64.lt_irrefl (Int64.lt_of_lt_of_le q y)
            rw [e] at nx
            exact nx
          · have := hP _ (k + 1) hf (by omega)
            omega
          · refine ihw (k + 1) (by omega) (fun u hu => ?_)
            by_cases z : u = k
            · subst z
              unfold glc
              rw [lN_shl31]
              exact Int64.not_lt.mp q
            · exact hg u (by omega)
      have := gl (s.n - 1) 0 (by omega) (fun u hu => absurd hu (by omega))
      have e0 : sm (fun u => aP gr s.lm s.n (drS (aP gr s.lm s.n) (aB gr s.lm s.n) s.n s0 t seed i * 6 + u)) (0 + 1) = aP gr s.lm s.n (drS (aP gr s.lm s.n) (aB gr s.lm s.n) s.n s0 t seed i * 6 + 0) := Nat.zero_add _
      rw [e0] at this
      exact this
end M10
