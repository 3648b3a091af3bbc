/-! the reference: marks and grades -/
def aN (m : Nat → Option Nat) : Nat → Nat
  | 0 => 0
  | p + 1 => aN m p + (if (m p).isSome then 1 else 0)
def aM (m : Nat → Option Nat) : Nat → Option Nat
  | 0 => none
  | p + 1 => match m p with
    | none => aM m p
    | some v => match aM m p with
      | none => some v
      | some w => some (if v ≤ w then w else v)
def aF (m : Nat → Option Nat) : Nat → Nat
  | 0 => 6
  | p + 1 => match m p with
    | none => aF m p
    | some v => if aF m p ≤ v then aF m p else v
def aS (m : Nat → Option Nat) (c : Int32) : Nat → Nat
  | 0 => 0
  | p + 1 => aS m c p + (if (m p).isSome ∧ oI (m p) = c then 1 else 0)
def aC1 (m : Nat → Option Nat) (c : Nat) : Nat → Nat
  | 0 => 0
  | p + 1 => aC1 m c p + (if m p = some c then 1 else 0)
def od : Nat → Option Nat
  | 0 => none
  | v + 1 => some v
def cd' : Option Nat → Nat
  | none => 0
  | some v => v + 1
theorem od_cd (o : Option Nat) : od (cd' o) = o := by cases o <;> rfl
def mq (a b c d : Nat) (p : Nat) : Option Nat := od (if p = 0 then a else if p = 1 then b else if p = 2 then c else d)
def m4ok (m : Nat → Option Nat) : Bool := (aN m 4 == (sr m 4).2) && (decide ((sr m 4).2 = 0) || ((aM m 4 == some ((sr m 4).1 ((sr m 4).2 - 1))) && (aF m 4 == (sr m 4).1 0) && decide (sm (fun c => aC1 m c 4) ((sr m 4).1 ((sr m 4).2 / 2)) ≤ (sr m 4).2 / 2) && decide ((sr m 4).2 / 2 < sm (fun c => aC1 m c 4) ((sr m 4).1 ((sr m 4).2 / 2) + 1)))) && (List.range 6).all (fun c => aC1 m c 4 == hm c (sr m 4).1 (sr m 4).2)
theorem m4_tab : ∀ a, a < 7 → ∀ b, b < 7 → ∀ c, c < 7 → ∀ d, d < 7 → m4ok (mq a b c d) = true := by decide +kernel
theorem aN_congr {m m' : Nat → Option Nat} : ∀ {p : Nat}, (∀ i, i < p → m i = m' i) → aN m p = aN m' p
  | 0, _ => rfl
  | p + 1, h => by
    show aN m p + _ = aN m' p + _
    rw [aN_congr (fun i hi => h i (by omega)), h p (by omega)]
theorem aM_congr {m m' : Nat → Option Nat} : ∀ {p : Nat}, (∀ i, i < p → m i = m' i) → aM m p = aM m' p
  | 0, _ => rfl
  | p + 1, h => by
    unfold aM
    rw [aM_congr (fun i hi => h i (by omega)), h p (by omega)]
theorem aF_congr {m m' : Nat → Option Nat} : ∀ {p : Nat}, (∀ i, i < p → m i = m' i) → aF m p = aF m' p
  | 0, _ => rfl
  | p + 1, h => by
    unfold aF
    rw [aF_congr (fun i hi => h i (by omega)), h p (by omega)]
theorem aC1_congr {m m' : Nat → Option Nat} {c : Nat} : ∀ {p : Nat}, (∀ i, i < p → m i = m' i) → aC1 m c p = aC1 m' c p
  | 0, _ => rfl
  | p + 1, h => by
    show aC1 m c p + _ = aC1 m' c p + _
    rw [aC1_congr (fun i hi => h i (by omega)), h p (by omega)]
theorem m4_all {m : Nat → Option Nat} (h : ∀ p v, p < 4 → m p = some v → v < 6) : m4ok m = true := by
  have hc : ∀ i, i < 4 → m i = mq (cd' (m 0)) (cd' (m 1)) (cd' (m 2)) (cd' (m 3)) i := by
    intro i hi
    have : i = 0 ∨ i = 1 ∨ i = 2 ∨ i = 3 := by omega
    rcases this with rfl | rfl | rfl | rfl <;> exact (od_cd _).symm
  have hl : ∀ i, i < 4 → cd' (m i) < 7 := by
    intro i hi
    match q : m i with
    | none => decide
    | some v =>
      have := h i v hi q
      show v + 1 < 7
      omega
  have := m4_tab _ (hl 0 (by decide)) _ (hl 1 (by decide)) _ (hl 2 (by decide)) _ (hl 3 (by decide))
  unfold m4ok at this ⊢
  rw [sr_congr hc, aN_congr hc, aM_congr hc, aF_congr hc]
  have e : (fun c => aC1 m c 4) = (fun c => aC1 (mq (cd' (m 0)) (cd' (m 1)) (cd' (m 2)) (cd' (m 3))) c 4) := funext fun c => aC1_congr hc
  rw [e]
  have e2 : (fun c => aC1 m c 4 == hm c (sr (mq (cd' (m 0)) (cd' (m 1)) (cd' (m 2)) (cd' (m 3))) 4).1 (sr (mq (cd' (m 0)) (cd' (m 1)) (cd' (m 2)) (cd' (m 3))) 4).2) = (fun c => aC1 (mq (cd' (m 0)) (cd' (m 1)) (cd' (m 2)) (cd' (m 3))) c 4 == hm c (sr (mq (cd' (m 0)) (cd' (m 1)) (cd' (m 2)) (cd' (m 3))) 4).1 (sr (mq (cd' (m 0)) (cd' (m 1)) (cd' (m 2)) (cd' (m 3))) 4).2) := funext fun c => by rw [aC1_congr hc]
  rw [e2]
  exact this
theorem aC1_big {m : Nat → Option Nat} {c : Nat} : ∀ {p : Nat}, (∀ i v, i < p → m i = some v → v < 6) → 6 ≤ c → aC1 m c p = 0
  | 0, _, _ => rfl
  | p + 1, h, hc => by
    show aC1 m c p + _ = 0
    rw [aC1_big (fun i v hi => h i v (by omega)) hc, if_neg (fun q => by have := h p c (by omega) q; omega)]
theorem hm_big {c : Nat} {so : Nat → Nat} : ∀ {k : Nat}, (∀ i, i < k → so i < 6) → 6 ≤ c → hm c so k = 0
  | 0, _, _ => rfl
  | k + 1, h, hc => by
    rw [hm_s, hm_big (fun i hi => h i (by omega)) hc, if_neg (by have := h k (by omega); omega)]
theorem m4_facts {m : Nat → Option Nat} (h : ∀ p v, m p = some v → v < 6) : aN m 4 = (sr m 4).2 ∧ (∀ c, aC1 m c 4 = hm c (sr m 4).1 (sr m 4).2) ∧ (0 < (sr m 4).2 → aM m 4 = some ((sr m 4).1 ((sr m 4).2 - 1)) ∧ aF m 4 = (sr m 4).1 0 ∧ sm (fun c => aC1 m c 4) ((sr m 4).1 ((sr m 4).2 / 2)) ≤ (sr m 4).2 / 2 ∧ (sr m 4).2 / 2 < sm (fun c => aC1 m c 4) ((sr m 4).1 ((sr m 4).2 / 2) + 1)) := by
  have k := m4_all (fun p v _ => h p v)
  unfold m4ok at k
  rw [Bool.and_eq_true, Bool.and_eq_true, beq_iff_eq] at k
  obtain ⟨⟨k1, k2⟩, k3⟩ := k
  refine ⟨k1, fun c => ?_, fun q => ?_⟩
  · rcases Nat.lt_or_ge c 6 with z | z
    · exact beq_iff_eq.mp (List.all_eq_true.mp k3 c (List.mem_range.mpr z))
    · rw [aC1_big (fun i v _ => h i v) z, hm_big (fun i hi => sr_lt h 4 i hi) z]
  · rw [Bool.or_eq_true, decide_eq_true_eq] at k2
    rcases k2 with z | z
    · omega
    · rw [Bool.and_eq_true, Bool.and_eq_true, Bool.and_eq_true, beq_iff_eq, beq_iff_eq, decide_eq_true_eq, decide_eq_true_eq] at z
      exact ⟨z.1.1.1, z.1.1.2, z.1.2, z.2⟩
theorem aS_eq {m : Nat → Option Nat} {c : Nat} (hc : c < 2 ^ 31) : ∀ {p : Nat}, (∀ i v, m i = some v → v < 6) → aS m (nI c) p = aC1 m c p
  | 0, _ => rfl
  | p + 1, h => by
    show aS m (nI c) p + _ = aC1 m c p + _
    rw [aS_eq hc h]
    match q : m p with
    | none => rw [if_neg (fun z => by cases z.1), if_neg (fun z => by cases z)]
    | some v =>
      have hv := h p v q
      by_cases z : v = c
      · subst z; rw [if_pos ⟨rfl, rfl⟩, if_pos rfl]
      · rw [if_neg (fun y => z ((nI_eq (by omega) hc).mp y.2)), if_neg (fun y => z (Option.some.inj y))]
abbrev mkR (s : MV) (t y : Nat) (m : Nat → Option Nat) : Prop := (∀ p, p < 4 → s.mk (4 * (12 * t + y) + p) = oI (m p)) ∧ ∀ p v, m p = some v → v < 6
def amI (m : Nat → Option Nat) (a c : Int32) : Int32 := if a = nI 1 then nI (aN m 4) else if a = nI 2 then oI (aM m 4) else if a = nI 3 then nI (aF m 4) else nI (aS m c 4)
theorem aM_lt {m : Nat → Option Nat} (h : ∀ p v, m p = some v → v < 6) : ∀ p w, aM m p = some w → w < 6
  | 0, w, q => by cases q
  | p + 1, w, q => by
    unfold aM at q
    match hm : m p with
    | none => rw [hm] at q; exact aM_lt h p w q
    | some v =>
      rw [hm] at q
      match hq : aM m p with
      | none =>
        rw [hq] at q
        have := h p v hm
        have := Option.some.inj q
        omega
      | some z =>
        rw [hq] at q
        have h1 := h p v hm
        have h2 := aM_lt h p z hq
        have h3 := Option.some.inj q
        by_cases y : v ≤ z
        · rw [if_pos y] at h3; omega
        · rw [if_neg y] at h3; omega
theorem aF_le {m : Nat → Option Nat} : ∀ p, aF m p ≤ 6
  | 0 => Nat.le_refl _
  | p + 1 => by
    have := aF_le (m := m) p
    unfold aF
    match m p with
    | none => exact this
    | some v =>
      show (if aF m p ≤ v then aF m p else v) ≤ 6
      split <;> omega
section M7
variable {g : xG} {Q : mQ} {s : MV} {x0 : Nat}
theorem l_amt {t y : Nat} {a c : Int32} {m : Nat → Option Nat} (ht : t < 10) (hy : y < 12) (hm : mkR s t y m) (hp : Q (some (.int (amI m a c))) s) : ∀ (w p : Nat), p + w = 4 → BlkM g M_X10_amountOf x0 Q 16 [(0, .ref x0), (1, .int (nI t)), (2, .int (nI y)), (3, .int a), (4, .int c), (5, .int (nI (aN m p))), (6, .int (oI (aM m p))), (7, .int (nI (aF m p))), (8, .int (nI (aS m c p))), (9, .int (nI p))] [] s := by
  intro w
  induction w with
  | zero =>
    intro p hpw
    have : p = 4 := by omega
    subst this
    unfold amI at hp
    refine v_X10_amountOf_16 ⟨⟨by decide, by decide⟩, fun _ => ⟨fun q1 => ⟨fun q2 => ⟨fun q3 => ?_, fun q3 => ?_⟩, fun q2 => ?_⟩, fun q1 => ?_⟩, fun q => absurd q (by decide)⟩
    · rw [if_neg q1, if_neg q2, if_neg q3] at hp; exact hp
    · rw [if_neg q1, if_neg q2, if_pos q3] at hp; exact hp
    · rw [if_neg q1, if_pos q2] at hp; exact hp
    · rw [if_pos q1] at hp; exact hp
  | succ w ih =>
    intro p hpw
    have hmp := hm.1 p (by omega)
    have nx := ih (p + 1) (by omega)
    refine v_X10_amountOf_16 ⟨⟨by omega, by decide⟩, fun q => absurd q (by omega), fun _ => m_spot ⟨_, rfl, by omega, ?_⟩⟩
    rw [hmp]
    match q : m p with
    | none =>
      have e1 : aN m (p + 1) = aN m p + 0 := by show aN m p + _ = _; rw [q]; rfl
      have e2 : aM m (p + 1) = aM m p := by show (match m p with | none => aM m p | some v => _) = _; rw [q]
      have e3 : aF m (p + 1) = aF m p := by show (match m p with | none => aF m p | some v => _) = _; rw [q]
      have e4 : aS m c (p + 1) = aS m c p + 0 := by show aS m c p + _ = _; rw [q, if_neg (fun z => by cases z.1)]
      rw [e1, e2, e3, e4] at nx
      refine ⟨fun z => absurd rfl z, fun _ => v_X10_amountOf_52 ⟨fun _ => v_X10_amountOf_68 ⟨fun _ => v_X10_amountOf_90 ⟨fun _ => v_X10_amountOf_113 nx, fun z => absurd rfl z⟩, fun z => absurd rfl z⟩, fun z => absurd ?_ z⟩⟩
      match q2 : aM m p with
      | none => exact Int32.le_refl _
      | some v =>
        have := aM_lt hm.2 p v q2
        have h1 : (-1 : Int32) ≤ 0 := by decide
        exact Int32.le_trans h1 (nI_pos' (by omega))
    | some v =>
      have hv := hm.2 p v q
      have hf := aF_le (m := m) p
      have hne : ¬ oI (some v) = -1 := nI_ne_m1 (by omega)
      have e1 : aN m (p + 1) = aN m p + 1 := by show aN m p + _ = _; rw [q]; rfl
      have e2 : aM m (p + 1) = (match aM m p with | none => some v | some w => some (if v ≤ w then w else v)) := by
        show (match m p with | none => aM m p | some v => (match aM m p with | none => some v | some w => some (if v ≤ w then w else v))) = _
        rw [q]
      have e3 : aF m (p + 1) = if aF m p ≤ v then aF m p else v := by
        show (match m p with | none => aF m p | some v => if aF m p ≤ v then aF m p else v) = _
        rw [q]
      have e4 : aS m c (p + 1) = aS m c p + (if oI (some v) = c then 1 else 0) := by
        show aS m c p + _ = _
        rw [q]
        by_cases z : oI (some v) = c
        · rw [if_pos ⟨rfl, z⟩, if_pos z]
        · rw [if_neg (fun y => z y.2), if_neg z]
      rw [e1, e4] at nx
      have s4 : BlkM g M_X10_amountOf x0 Q 90 [(0, .ref x0), (1, .int (nI t)), (2, .int (nI y)), (3, .int a), (4, .int c), (5, .int (nI (aN m p + 1))), (6, .int (oI (aM m (p + 1)))), (7, .int (nI (aF m (p + 1)))), (8, .int (nI (aS m c p))), (9, .int (nI p)), (10, .int (oI (some v)))] [] s := by
        refine v_X10_amountOf_90 ⟨fun z => absurd z hne, fun _ => ⟨fun z => v_X10_amountOf_113 ?_, fun z => v_X10_amountOf_113 ?_⟩⟩
        · rw [if_neg z] at nx; exact nx
        · rw [if_pos z] at nx; exact nx
      have s3 : BlkM g M_X10_amountOf x0 Q 68 [(0, .ref x0), (1, .int (nI t)), (2, .int (nI y)), (3, .int a), (4, .int c), (5, .int (nI (aN m p + 1))), (6, .int (oI (aM m (p + 1)))), (7, .int (nI (aF m p))), (8, .int (nI (aS m c p))), (9, .int (nI p)), (10, .int (oI (some v)))] [] s := by
        rw [e3] at s4
        refine v_X10_amountOf_68 ⟨fun z => absurd z hne, fun _ => ⟨fun z => ?_, fun z => ?_⟩⟩
        · have : aF m p ≤ v := by
            rw [← Int32.not_lt] at z
            rcases Nat.lt_or_ge v (aF m p) with y | y
            · exact absurd (nI_lt y (by omega)) z
            · exact y
          rw [if_pos this] at s4; exact s4
        · have : ¬ aF m p ≤ v := fun y => z (by rw [← Int32.not_lt]; intro x; have := (nI_ltI (by omega) (by omega)).mp x; omega)
          rw [if_neg this] at s4; exact s4
      refine ⟨fun _ => v_X10_amountOf_52 ⟨fun z => ?_, fun z => ?_⟩, fun z => absurd z hne⟩
      · match q2 : aM m p with
        | none =>
          rw [q2] at z
          have h1 : (-1 : Int32) < 0 := by decide
          exact absurd (Int32.lt_of_le_of_lt z h1) (nI_pos (by omega))
        | some w =>
          rw [q2] at z e2
          have hw := aM_lt hm.2 p w q2
          have : v ≤ w := by
            rw [← Int32.not_lt] at z
            rcases Nat.lt_or_ge w v with y | y
            · exact absurd (nI_lt y (by omega)) z
            · exact y
          rw [e2] at s3
          have e5 : (match some w with | none => some v | some w => some (if v ≤ w then w else v)) = some w := by
            show some (if v ≤ w then w else v) = _
            rw [if_pos this]
          rw [e5] at s3
          exact s3
      · match q2 : aM m p with
        | none =>
          rw [q2] at e2
          rw [e2] at s3
          exact s3
        | some w =>
          rw [q2] at z e2
          have hw := aM_lt hm.2 p w q2
          have : ¬ v ≤ w := fun y => z (by rw [← Int32.not_lt]; intro x; have := (nI_ltI (by omega) (by omega)).mp x; omega)
          rw [e2] at s3
          have e5 : (match some w with | none => some v | some w => some (if v ≤ w then w else v)) = some v := by
            show some (if v ≤ w then w else v) = _
            rw [if_neg this]
          rw [e5] at s3
          exact s3
theorem m_amountOf {t y : Nat} {a c : Int32} {m : Nat → Option Nat} (ht : t < 10) (hy : y < 12) (hm : mkR s t y m) (hp : Q (some (.int (amI m a c))) s) : CtM g M_X10_amountOf [.ref x0, .int (nI t), .int (nI y), .int a, .int c] x0 s Q :=
  CtM.of (by decide +kernel) (Nat.le_of_ble_eq_true rfl) (v_X10_amountOf_0 (l_amt ht hy hm hp 4 0 (by decide)))
end M7
