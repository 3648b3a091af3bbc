/-! the reference: grades -/
def rlR (n : Nat) (s : MV) (R : Rl) : Prop := s.ru = R.2.2.2.2.2 ∧ R.2.2.2.2.2 ≤ 20 ∧ ∀ k, k < R.2.2.2.2.2 → s.rl (6 * k) = nI (R.1 k) ∧ R.1 k ≤ 4 ∧ R.2.1 k < 1000 ∧ R.2.2.2.1 k < 1000 ∧ (R.1 k = 4 → s.rl (6 * k + 1) = nI (R.2.1 k)) ∧ (R.1 k ≠ 0 → s.rl (6 * k + 2) = nI (R.2.2.1 k) ∧ s.rl (6 * k + 3) = nI (R.2.2.2.1 k) ∧ (R.2.2.1 k = 60 ∨ R.2.2.1 k = 61 ∨ R.2.2.1 k = 62)) ∧ ((R.2.2.2.2.1 k < n ∧ s.rl (6 * k + 4) = 0 ∧ s.rl (6 * k + 5) = nI (R.2.2.2.2.1 k)) ∨ (R.2.2.2.2.1 k = 1000 ∧ s.rl (6 * k + 4) = nI 2) ∨ (R.2.2.2.2.1 k = 1001 ∧ s.rl (6 * k + 4) = nI 3) ∨ (R.2.2.2.2.1 k = 1002 ∧ s.rl (6 * k + 4) = nI 5))
theorem sm_s {p : Nat → Nat} {i : Nat} : sm p (i + 1) = sm p i + p i := rfl
theorem sm_mon {p : Nat → Nat} {i : Nat} : ∀ {j : Nat}, i ≤ j → sm p i ≤ sm p j
  | 0, h => by
    have : i = 0 := by omega
    subst this; exact Nat.le_refl _
  | j + 1, h => by
    by_cases q : i = j + 1
    · subst q; exact Nat.le_refl _
    · have := sm_mon (p := p) (i := i) (j := j) (by omega)
      rw [sm_s]; omega
theorem amI_1 {m : Nat → Option Nat} {c : Int32} : amI m (nI 1) c = nI (aN m 4) := if_pos rfl
theorem amI_2 {m : Nat → Option Nat} {c : Int32} : amI m (nI 2) c = oI (aM m 4) := by
  unfold amI
  rw [if_neg (by decide), if_pos rfl]
theorem amI_3 {m : Nat → Option Nat} {c : Int32} : amI m (nI 3) c = nI (aF m 4) := by
  unfold amI
  rw [if_neg (by decide), if_neg (by decide), if_pos rfl]
theorem amI_4 {m : Nat → Option Nat} {c : Int32} : amI m (nI 4) c = nI (aS m c 4) := by
  unfold amI
  rw [if_neg (by decide), if_neg (by decide), if_neg (by decide)]
theorem aN_le {m : Nat → Option Nat} : ∀ p, aN m p ≤ p
  | 0 => Nat.le_refl _
  | p + 1 => by
    have := aN_le (m := m) p
    show aN m p + _ ≤ _
    split <;> omega
theorem aC1_le {m : Nat → Option Nat} {c : Nat} : ∀ p, aC1 m c p ≤ p
  | 0 => Nat.le_refl _
  | p + 1 => by
    have := aC1_le (m := m) (c := c) p
    show aC1 m c p + _ ≤ _
    split <;> omega
theorem sm_cle {m : Nat → Option Nat} : ∀ i, sm (fun c => aC1 m c 4) i ≤ 4 * i
  | 0 => Nat.le_refl _
  | i + 1 => by
    have h1 := sm_cle (m := m) i
    have h2 := aC1_le (m := m) (c := i) 4
    show sm _ i + aC1 m i 4 ≤ _
    omega
section M8
variable {g : xG} {Q : mQ} {s : MV} {x0 : Nat}
theorem m_middleOf {t y : Nat} {m : Nat → Option Nat} (hn : 2 ≤ s.n ∧ s.n ≤ 6) (ht : t < 10) (hy : y < 12) (hm : mkR s t y m) (hmn : ∀ p v, m p = some v → v < s.n) (hk : 0 < (sr m 4).2) (hp : Q (some (.int (nI ((sr m 4).1 ((sr m 4).2 / 2))))) s) : CtM g M_X10_middleOf [.ref x0, .int (nI t), .int (nI y)] x0 s Q := by
  obtain ⟨f1, f2, f3⟩ := m4_facts hm.2
  obtain ⟨-, -, f5, f6⟩ := f3 hk
  have hz : (sr m 4).1 ((sr m 4).2 / 2) < s.n := sr_lt hmn 4 _ (by omega)
  have hk4 := sr_le (m := m) 4
  refine CtM.of (by decide +kernel) (Nat.le_of_ble_eq_true rfl) (v_X10_middleOf_0 (m_amountOf ht hy hm ⟨_, rfl, aN m 4, amI_1, ?_⟩))
  rw [f1]
  have main : ∀ (d z : Nat), z + d = (sr m 4).1 ((sr m 4).2 / 2) → BlkM g M_X10_middleOf x0 Q 15 [(0, .ref x0), (1, .int (nI t)), (2, .int (nI y)), (3, .int (nI (sr m 4).2)), (4, .int (nI (sm (fun c => aC1 m c 4) z))), (5, .int (nI z))] [] s := by
    intro d
    induction d with
    | zero =>
      intro z hzd
      have hzz : z = (sr m 4).1 ((sr m 4).2 / 2) := by omega
      refine v_X10_middleOf_15 ⟨⟨by omega, by omega⟩, fun q => absurd q (by omega), fun _ => m_amountOf ht hy hm ⟨_, rfl, ⟨by omega, by decide, by decide⟩, ?_⟩⟩
      rw [amI_4, aS_eq (by omega) hm.2, nI_add]
      have hb := sm_cle (m := m) (z + 1)
      have e : sm (fun c => aC1 m c 4) z + aC1 m z 4 = sm (fun c => aC1 m c 4) (z + 1) := rfl
      rw [e]
      rw [← hzz] at f6
      refine ⟨fun q => ?_, fun _ => by rw [hzz]; exact hp⟩
      rw [← Int32.not_lt] at q
      exact absurd (nI_lt f6 (by omega)) q
    | succ d ih =>
      intro z hzd
      refine v_X10_middleOf_15 ⟨⟨by omega, by omega⟩, fun q => absurd q (by omega), fun _ => m_amountOf ht hy hm ⟨_, rfl, ⟨by omega, by decide, by decide⟩, ?_⟩⟩
      rw [amI_4, aS_eq (by omega) hm.2, nI_add]
      have hb := sm_cle (m := m) (z + 1)
      have e : sm (fun c => aC1 m c 4) z + aC1 m z 4 = sm (fun c => aC1 m c 4) (z + 1) := rfl
      rw [e]
      have hle : sm (fun c => aC1 m c 4) (z + 1) ≤ (sr m 4).2 / 2 := Nat.le_trans (sm_mon (by omega)) f5
      refine ⟨fun q => ⟨_, rfl, ih (z + 1) (by omega)⟩, fun q => absurd ?_ q⟩
      rw [← Int32.not_lt, nI_ltI (by omega) (by omega)]
      omega
  exact main _ 0 (Nat.zero_add _)
theorem m_gradeOf {t y : Nat} {m : Nat → Option Nat} {R : Rl} (hn : 2 ≤ s.n ∧ s.n ≤ 6) (hR : rlR s.n s R) (ht : t < 10) (hy : y < 12) (hm : mkR s t y m) (hmn : ∀ p v, m p = some v → v < s.n) (hp : Q (some (.int (oI (grd R m)))) s) : CtM g M_X10_gradeOf [.ref x0, .int (nI t), .int (nI y)] x0 s Q := by
  obtain ⟨f1, f2, f3⟩ := m4_facts hm.2
  obtain ⟨r1, r2, r3⟩ := hR
  have hk4 := sr_le (m := m) 4
  unfold grd at hp
  refine CtM.of (by decide +kernel) (Nat.le_of_ble_eq_true rfl) (v_X10_gradeOf_0 (m_amountOf ht hy hm ⟨_, rfl, ?_⟩))
  rw [amI_1, f1]
  refine ⟨fun q => ?_, fun q => ?_⟩
  · have hk : 0 < (sr m 4).2 := by
      rcases Nat.eq_zero_or_pos (sr m 4).2 with z | z
      · rw [z] at q; exact absurd rfl q
      · exact z
    rw [if_neg (by omega)] at hp
    obtain ⟨f4, f5, -, -⟩ := f3 hk
    have hso : ∀ i, i < (sr m 4).2 → (sr m 4).1 i < s.n := fun i hi => sr_lt hmn 4 i hi
    have main : ∀ (d i : Nat), i + d = R.2.2.2.2.2 → Q (some (.int (nI (jd R (sr m 4).1 (sr m 4).2 d i)))) s → BlkM g M_X10_gradeOf x0 Q 15 [(0, .ref x0), (1, .int (nI t)), (2, .int (nI y)), (3, .int (nI i))] [] s := by
      intro d
      induction d with
      | zero =>
        intro i hi hq
        refine v_X10_gradeOf_15 ⟨⟨by omega, by omega⟩, fun _ => m_amountOf ht hy hm ⟨_, rfl, ?_⟩, fun z => absurd z (by omega)⟩
        rw [amI_2, f4]
        exact hq
      | succ d ih =>
        intro i hi hq
        obtain ⟨c1, c2, c3, c4, c5, c6, c7⟩ := r3 i (by omega)
        rw [jd_s] at hq
        have fin : BlkM g M_X10_gradeOf x0 Q 144 [(0, .ref x0), (1, .int (nI t)), (2, .int (nI y)), (3, .int (nI i)), (4, .int (nI (6 * i))), (7, .int (nI (hld (R.1 i) (R.2.1 i) (R.2.2.1 i) (R.2.2.2.1 i) (sr m 4).1 (sr m 4).2)))] [] s := by
          have hh : hld (R.1 i) (R.2.1 i) (R.2.2.1 i) (R.2.2.2.1 i) (sr m 4).1 (sr m 4).2 ≤ 1 := by
            unfold hld
            split
            · exact Nat.le_refl _
            · split
              · split <;> decide
              · split
                · split <;> decide
                · split <;> decide
          refine v_X10_gradeOf_144 ⟨by omega, fun z => ?_, fun z => ⟨by omega, ?_⟩⟩
          · rw [if_pos z] at hq
            exact ih (i + 1) (by omega) hq
          · rw [if_neg z] at hq
            unfold vlf at hq
            rcases c7 with ⟨v1, v2, v3⟩ | ⟨v1, v2⟩ | ⟨v1, v2⟩ | ⟨v1, v2⟩
            · rw [if_neg (by omega), if_neg (by omega), if_neg (by omega)] at hq
              rw [v2, v3]
              exact ⟨fun z => absurd rfl z, fun _ => ⟨by omega, hq⟩⟩
            · rw [if_pos v1] at hq
              rw [v2]
              refine ⟨fun _ => ⟨by omega, fun _ => ⟨by omega, m_amountOf ht hy hm ⟨_, rfl, ?_⟩⟩, fun z => absurd z (by decide)⟩, fun z => absurd z (by decide)⟩
              rw [amI_2, f4]
              exact hq
            · rw [if_neg (by omega), if_pos v1] at hq
              rw [v2]
              refine ⟨fun _ => ⟨by omega, fun _ => ⟨by omega, m_amountOf ht hy hm ⟨_, rfl, ?_⟩⟩, fun z => absurd z (by decide)⟩, fun z => absurd z (by decide)⟩
              rw [amI_3, f5]
              exact hq
            · rw [if_neg (by omega), if_neg (by omega), if_pos v1] at hq
              rw [v2]
              exact ⟨fun _ => ⟨by omega, fun z => absurd rfl z, fun _ => m_middleOf hn ht hy hm hmn hk ⟨_, rfl, hq⟩⟩, fun z => absurd z (by decide)⟩
        refine v_X10_gradeOf_15 ⟨⟨by omega, by omega⟩, fun z => absurd z (by omega), fun _ => ⟨by omega, by omega, m_amountOf ht hy hm ⟨_, rfl, by omega, by omega, ?_⟩⟩⟩
        rw [c1]
        rcases Nat.eq_zero_or_pos (R.1 i) with a0 | a0
        · unfold hld at fin
          rw [if_pos a0] at fin
          refine ⟨fun _ => fin, fun z => absurd (by rw [a0]; rfl) z⟩
        · obtain ⟨d1, d2, d3⟩ := c6 (by omega)
          have ev : amI m (nI (R.1 i)) (s.rl (6 * i + 1)) = nI (amt (R.1 i) (R.2.1 i) (sr m 4).1 (sr m 4).2) := by
            have : R.1 i = 1 ∨ R.1 i = 2 ∨ R.1 i = 3 ∨ R.1 i = 4 := by omega
            unfold amt
            rcases this with z | z | z | z
            · rw [z, amI_1, f1]; rfl
            · rw [z, amI_2, f4]; rfl
            · rw [z, amI_3, f5]; rfl
            · rw [z, c5 z, amI_4, aS_eq (by omega) hm.2, f2]; rfl
          have hav : amt (R.1 i) (R.2.1 i) (sr m 4).1 (sr m 4).2 < 1000 := by
            unfold amt
            have h1 := hso ((sr m 4).2 - 1) (by omega)
            have h2 := hso 0 hk
            have h3 := hm_le (c := R.2.1 i) (so := (sr m 4).1) (sr m 4).2
            split
            · omega
            · split
              · omega
              · split <;> omega
          unfold hld at fin
          rw [if_neg (by omega)] at fin
          rw [ev, d1, d2]
          refine ⟨fun z => absurd ((nI_eq (b := 0) (by omega) (by decide)).mp z) (by omega), fun _ => ⟨by omega, ?_⟩⟩
          rcases d3 with z | z | z
          · rw [z] at fin ⊢
            rw [if_pos rfl] at fin
            refine ⟨fun q => absurd rfl q, fun _ => ⟨fun q => ?_, fun q => ⟨by omega, fun _ => ⟨by omega, fun _ => ?_, fun q2 => absurd q2 (by decide)⟩, fun q2 => absurd q2 (by decide)⟩⟩⟩
            · rw [nI_ltI (by omega) (by omega)] at q
              rw [if_pos q] at fin
              exact fin
            · rw [nI_ltI (by omega) (by omega)] at q
              rw [if_neg q] at fin
              exact fin
          · rw [z] at fin ⊢
            rw [if_neg (by decide), if_neg (by decide)] at fin
            refine ⟨fun _ => ⟨by omega, fun q => absurd rfl q, fun _ => ⟨fun q => ?_, fun q => ⟨by omega, fun _ => ?_, fun q2 => absurd q2 (by decide)⟩⟩⟩, fun q => absurd q (by decide)⟩
            · rw [nI_eq (by omega) (by omega)] at q
              rw [if_pos q] at fin
              exact fin
            · rw [nI_eq (by omega) (by omega)] at q
              rw [if_neg q] at fin
              exact fin
          · rw [z] at fin ⊢
            rw [if_neg (by decide), if_pos rfl] at fin
            refine ⟨fun _ => ⟨by omega, fun _ => ⟨by omega, fun q => absurd rfl q, fun _ => ⟨fun q => ?_, fun q => ?_⟩⟩, fun q => absurd q (by decide)⟩, fun q => absurd q (by decide)⟩
            · rw [← Int32.not_lt, nI_ltI (by omega) (by omega)] at q
              rw [if_neg q] at fin
              exact fin
            · rw [← Int32.not_lt, Decidable.not_not, nI_ltI (by omega) (by omega)] at q
              rw [if_pos q] at fin
              exact fin
    exact main _ 0 (Nat.zero_add _) hp
  · have hk : (sr m 4).2 = 0 := (nI_eq (by omega) (by decide)).mp q
    rw [if_pos hk] at hp
    exact hp
end M8
