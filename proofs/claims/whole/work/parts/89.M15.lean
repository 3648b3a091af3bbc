/-! the reference: rules read -/
theorem wIs_inj {tx : Nat → Nat} {W : Wd} {k i j : Nat} (hi : i < 10) (hj : j < 10) (h1 : wIs tx W k i = true) (h2 : wIs tx W k j = true) : i = j := by
  have key : ∀ i, wIs tx W k i = true → litC i = (List.range (W.2.1 k - W.1 k)).map (fun m => tx (W.1 k + m)) := by
    intro i h
    unfold wIs at h
    rw [Bool.and_eq_true, Bool.and_eq_true, decide_eq_true_eq, decide_eq_true_eq] at h
    obtain ⟨⟨-, hL⟩, hA⟩ := h
    rw [List.all_eq_true] at hA
    apply List.ext_getElem
    · rw [List.length_map, List.length_range, hL]
    · intro m h1 h2
      rw [List.getElem_map, List.getElem_range]
      have := hA m (List.mem_range.mpr h1)
      rw [decide_eq_true_eq, List.getD_eq_getElem?_getD, List.getElem?_eq_getElem h1] at this
      exact this.symm
  have e : litC i = litC j := (key i h1).trans (key j h2).symm
  have tab : ∀ i, i < 10 → ∀ j, j < 10 → litC i = litC j → i = j := by decide
  exact tab i hi j hj e
def sH (tx : Nat → Nat) (W : Wd) (k : Nat) : Nat := if wIs tx W k 2 = true then 2 else if wIs tx W k 6 = true then 3 else if wIs tx W k 7 = true then 5 else if wIs tx W k 0 = true then 1 else if wIs tx W k 1 = true then 4 else 0
theorem sH_le {tx : Nat → Nat} {W : Wd} {k : Nat} : sH tx W k ≤ 5 := by
  unfold sH
  repeat' split
  all_goals decide
theorem sH_2 {tx : Nat → Nat} {W : Wd} {k : Nat} : sH tx W k = 2 ↔ wIs tx W k 2 = true := by
  unfold sH
  constructor
  · intro h
    repeat' split at h
    all_goals first | assumption | omega
  · intro h; rw [if_pos h]
theorem sH_3 {tx : Nat → Nat} {W : Wd} {k : Nat} : sH tx W k = 3 ↔ wIs tx W k 6 = true := by
  unfold sH
  constructor
  · intro h
    repeat' split at h
    all_goals first | assumption | omega
  · intro h; rw [if_neg (fun z => absurd (wIs_inj (by decide) (by decide) h z) (by decide)), if_pos h]
theorem sH_5 {tx : Nat → Nat} {W : Wd} {k : Nat} : sH tx W k = 5 ↔ wIs tx W k 7 = true := by
  unfold sH
  constructor
  · intro h
    repeat' split at h
    all_goals first | assumption | omega
  · intro h; rw [if_neg (fun z => absurd (wIs_inj (by decide) (by decide) h z) (by decide)), if_neg (fun z => absurd (wIs_inj (by decide) (by decide) h z) (by decide)), if_pos h]
theorem sH_1 {tx : Nat → Nat} {W : Wd} {k : Nat} : sH tx W k = 1 ↔ wIs tx W k 0 = true := by
  unfold sH
  constructor
  · intro h
    repeat' split at h
    all_goals first | assumption | omega
  · intro h; rw [if_neg (fun z => absurd (wIs_inj (by decide) (by decide) h z) (by decide)), if_neg (fun z => absurd (wIs_inj (by decide) (by decide) h z) (by decide)), if_neg (fun z => absurd (wIs_inj (by decide) (by decide) h z) (by decide)), if_pos h]
theorem sH_4 {tx : Nat → Nat} {W : Wd} {k : Nat} : sH tx W k = 4 ↔ wIs tx W k 1 = true := by
  unfold sH
  constructor
  · intro h
    repeat' split at h
    all_goals first | assumption | omega
  · intro h; rw [if_neg (fun z => absurd (wIs_inj (by decide) (by decide) h z) (by decide)), if_neg (fun z => absurd (wIs_inj (by decide) (by decide) h z) (by decide)), if_neg (fun z => absurd (wIs_inj (by decide) (by decide) h z) (by decide)), if_neg (fun z => absurd (wIs_inj (by decide) (by decide) h z) (by decide)), if_pos h]
/-- a condition, by the sort and the sign behind it -/
theorem amtA_sH {tx : Nat → Nat} {W : Wd} {k : Nat} : amtA tx W k = if sH tx W k = 1 ∨ sH tx W k = 4 ∨ ((sH tx W k = 2 ∨ sH tx W k = 3) ∧ isC tx W (k + 1) = true) then sH tx W k else 0 := by
  unfold amtA
  by_cases h0 : wIs tx W k 0 = true
  · have e := sH_1.mpr h0
    rw [if_pos h0, e, if_pos (Or.inl rfl)]
  · rw [if_neg h0]
    by_cases h1 : wIs tx W k 1 = true
    · have e := sH_4.mpr h1
      rw [if_pos h1, e, if_pos (Or.inr (Or.inl rfl))]
    · rw [if_neg h1]
      by_cases h2 : wIs tx W k 2 = true
      · have e := sH_2.mpr h2
        have h6 : wIs tx W k 6 = false := by
          cases h : wIs tx W k 6
          · rfl
          · exact absurd (wIs_inj (by decide) (by decide) h2 h) (by decide)
        rw [e, h2, h6]
        by_cases hc : isC tx W (k + 1) = true
        · rw [hc]; simp
        · have hc' : isC tx W (k + 1) = false := by simpa using hc
          rw [hc']; simp
      · have h2' : wIs tx W k 2 = false := by simpa using h2
        by_cases h6 : wIs tx W k 6 = true
        · have e := sH_3.mpr h6
          rw [e, h6, h2']
          by_cases hc : isC tx W (k + 1) = true
          · rw [hc]; simp
          · have hc' : isC tx W (k + 1) = false := by simpa using hc
            rw [hc']; simp
        · have h6' : wIs tx W k 6 = false := by simpa using h6
          rw [h2', h6', if_neg (by simp), if_neg (by simp), if_neg]
          rintro (z | z | ⟨z | z, -⟩)
          · exact h0 (sH_1.mp z)
          · exact h1 (sH_4.mp z)
          · exact h2 (sH_2.mp z)
          · exact h6 (sH_3.mp z)
def enR (n : Nat) (f : Nat → Int32) (R : Rl) (k : Nat) : Prop := f (6 * k) = nI (R.1 k) ∧ R.1 k ≤ 4 ∧ R.2.1 k < 1000 ∧ R.2.2.2.1 k < 1000 ∧ (R.1 k = 4 → f (6 * k + 1) = nI (R.2.1 k)) ∧ (R.1 k ≠ 0 → f (6 * k + 2) = nI (R.2.2.1 k) ∧ f (6 * k + 3) = nI (R.2.2.2.1 k) ∧ (R.2.2.1 k = 60 ∨ R.2.2.1 k = 61 ∨ R.2.2.1 k = 62)) ∧ ((R.2.2.2.2.1 k < n ∧ f (6 * k + 4) = 0 ∧ f (6 * k + 5) = nI (R.2.2.2.2.1 k)) ∨ (R.2.2.2.2.1 k = 1000 ∧ f (6 * k + 4) = nI 2) ∨ (R.2.2.2.2.1 k = 1001 ∧ f (6 * k + 4) = nI 3) ∨ (R.2.2.2.2.1 k = 1002 ∧ f (6 * k + 4) = nI 5))
theorem isC_sign {tx : Nat → Nat} {W : Wd} {k : Nat} (h : isC tx W k = true) : tx (W.1 k) = 60 ∨ tx (W.1 k) = 61 ∨ tx (W.1 k) = 62 := by
  unfold isC at h
  rw [Bool.or_eq_true, Bool.or_eq_true] at h
  rcases h with (h | h) | h
  · exact Or.inl ((wIs1 (a := 60) rfl).mp h).2.2
  · exact Or.inr (Or.inl ((wIs1 (a := 61) rfl).mp h).2.2)
  · exact Or.inr (Or.inr ((wIs1 (a := 62) rfl).mp h).2.2)
section M15
variable {g : xG} {Q : mQ} {s : MV} {x0 : Nat} {tx : Nat → Nat} {len : Nat} {W : Wd}
theorem tI (b : Bool) : (if b = true then 1 else 0) < 2 ^ 31 := by cases b <;> decide
theorem t0 {b : Bool} (h : (if b = true then 1 else 0) = 0) : b = false := by
  cases b
  · rfl
  · cases h
theorem t1 {b : Bool} (h : ¬ (if b = true then 1 else 0) = 0) : b = true := by
  cases b
  · exact absurd rfl h
  · rfl
theorem m_sortHere (hW : wR s tx len W) (hat : s.at_ < 2 ^ 31) (hp : Q (some (.int (nI (sH tx W s.at_)))) s) : CtM g M_X10_sortHere [.ref x0] x0 s Q := by
  unfold sH at hp
  refine CtM.of (by decide +kernel) (Nat.le_of_ble_eq_true rfl) (v_X10_sortHere_0 (m_is3 (j := 2) hW hat (by decide) (by decide) (by decide) rfl ⟨_, rfl, tI _, fun a1 => m_is3 (j := 6) hW hat (by decide) (by decide) (by decide) rfl ⟨_, rfl, tI _, fun a2 => m_is3 (j := 7) hW hat (by decide) (by decide) (by decide) rfl ⟨_, rfl, tI _, fun a3 => m_is1 (j := 0) hW hat (by decide) rfl ⟨_, rfl, tI _, fun a4 => m_is1 (j := 1) hW hat (by decide) rfl ⟨_, rfl, tI _, fun a5 => ?_, fun a5 => ?_⟩, fun a4 => ?_⟩, fun a3 => ?_⟩, fun a2 => ?_⟩, fun a1 => ?_⟩))
  · rw [t0 a1, t0 a2, t0 a3, t0 a4, t0 a5] at hp; exact hp
  · rw [t0 a1, t0 a2, t0 a3, t0 a4, t1 a5] at hp; exact hp
  · rw [t0 a1, t0 a2, t0 a3, t1 a4] at hp; exact hp
  · rw [t0 a1, t0 a2, t1 a3] at hp; exact hp
  · rw [t0 a1, t1 a2] at hp; exact hp
  · rw [t1 a1] at hp; exact hp
theorem m_isSignHere (hW : wR s tx len W) (hat : s.at_ < 2 ^ 31) (hp : Q (some (.int (nI (if isC tx W s.at_ = true then 1 else 0)))) s) : CtM g M_X10_isSignHere [.ref x0] x0 s Q := by
  unfold isC at hp
  refine CtM.of (by decide +kernel) (Nat.le_of_ble_eq_true rfl) (v_X10_isSignHere_0 (m_is1 (j := 3) hW hat (by decide) rfl ⟨_, rfl, tI _, fun a1 => ?_, fun a1 => m_is1 (j := 4) hW hat (by decide) rfl ⟨_, rfl, tI _, fun a2 => ?_, fun a2 => m_is1 (j := 5) hW hat (by decide) rfl ⟨_, rfl, tI _, fun a3 => ?_, fun a3 => ?_⟩⟩⟩))
  · rw [t1 a1] at hp; exact hp
  · rw [t0 a1, t1 a2] at hp; exact hp
  · rw [t0 a1, t0 a2, t0 a3] at hp; exact hp
  · rw [t0 a1, t0 a2, t1 a3] at hp; exact hp
theorem m_hasCondition (hW : wR s tx len W) (hat : s.at_ < 2 ^ 30) (hp : Q (some (.int (nI (if amtA tx W s.at_ = 0 then 0 else 1)))) s) : CtM g M_X10_hasCondition [.ref x0] x0 s Q := by
  have h5 := sH_le (tx := tx) (W := W) (k := s.at_)
  have hp0 := hp
  rw [amtA_sH] at hp
  have hW' : wR (MV.u_at_ s (s.at_ + 1)) tx len W := hW
  refine CtM.of (by decide +kernel) (Nat.le_of_ble_eq_true rfl) (v_X10_hasCondition_0 (m_sortHere hW (by omega) ⟨_, rfl, m_isSignHere hW' (by show s.at_ + 1 < _; omega) ⟨_, rfl, by show 1 ≤ s.at_ + 1; omega, ⟨by omega, by decide⟩, fun a1 => ?_, fun a1 => ⟨⟨by omega, by decide⟩, fun a2 => ?_, fun a2 => ⟨⟨by omega, by decide⟩, fun a3 => ⟨tI _, fun a4 => ?_, fun a4 => ?_⟩, fun a3 => ⟨⟨by omega, by decide⟩, fun a4 => ?_, fun a4 => ⟨tI _, fun a5 => ?_, fun a5 => ?_⟩⟩⟩⟩⟩⟩))
  · rw [a1, if_pos (Or.inl rfl)] at hp; exact hp
  · rw [a2, if_pos (Or.inr (Or.inl rfl))] at hp; exact hp
  · have c : isC tx W (s.at_ + 1) = false := t0 a4
    rw [a3, c] at hp; exact hp
  · have c : isC tx W (s.at_ + 1) = true := t1 a4
    rw [a3, c] at hp; exact hp
  · have e : amtA tx W s.at_ = 0 := by rw [amtA_sH, if_neg (by omega)]
    rw [e] at hp0; exact hp0
  · have c : isC tx W (s.at_ + 1) = false := t0 a5
    rw [a4, c] at hp; exact hp
  · have c : isC tx W (s.at_ + 1) = true := t1 a5
    rw [a4, c] at hp; exact hp
/-- the value of a rule -/
theorem m_value {d : Nat} (hn : s.n ≤ 6) (hd : d + 5 < 132) (hW : wR s tx len W) (hat : s.at_ < 2 ^ 30) (hwr : s.wr = 0)
    (h0 : valA s.n tx W s.at_ = none → ∀ f, Q none (MV.u_dr (MV.u_wr s 1) f))
    (h1 : ∀ v f, valA s.n tx W s.at_ = some v → (∀ i, i < d + 4 ∨ d + 6 ≤ i → f i = s.dr i) → ((v < s.n ∧ f (d + 4) = 0 ∧ f (d + 5) = nI v) ∨ (v = 1000 ∧ f (d + 4) = nI 2) ∨ (v = 1001 ∧ f (d + 4) = nI 3) ∨ (v = 1002 ∧ f (d + 4) = nI 5)) → Q none (MV.u_dr (MV.u_at_ s (s.at_ + 1)) f)) : CtM g M_X10_value [.ref x0, .int (nI d)] x0 s Q := by
  have h5 := sH_le (tx := tx) (W := W) (k := s.at_)
  have up1 : ∀ x : Int32, ∀ i, i < d + 4 ∨ d + 6 ≤ i → va_up s.dr (d + 4) x i = s.dr i := fun x i hi => up_n (by omega)
  have up2 : ∀ x y : Int32, ∀ i, i < d + 4 ∨ d + 6 ≤ i → va_up (va_up s.dr (d + 4) x) (d + 5) y i = s.dr i := fun x y i hi => (up_n (by omega)).trans (up_n (by omega))
  refine CtM.of (by decide +kernel) (Nat.le_of_ble_eq_true rfl) (v_X10_value_0 (m_sortHere hW (by omega) ⟨_, rfl, ⟨by omega, by decide⟩, fun a1 => ⟨by omega, ?_⟩, fun a1 => ⟨⟨by omega, by decide⟩, fun a2 => ⟨by omega, ?_⟩, fun a2 => ⟨⟨by omega, by decide⟩, fun a3 => ?_, fun a3 => ⟨by omega, ?_⟩⟩⟩⟩))
  · have hv : valA s.n tx W s.at_ = some 1000 := by unfold valA; rw [if_pos (sH_2.mp a1)]
    rw [a1]
    exact h1 1000 _ hv (up1 _) (Or.inr (Or.inl ⟨rfl, up_s⟩))
  · have hv : valA s.n tx W s.at_ = some 1001 := by unfold valA; rw [if_neg (fun z => a1 (sH_2.mpr z)), if_pos (sH_3.mp a2)]
    rw [a2]
    exact h1 1001 _ hv (up1 _) (Or.inr (Or.inr (Or.inl ⟨rfl, up_s⟩)))
  · have hv : valA s.n tx W s.at_ = match numA tx W s.at_ with | none => none | some v => if v < s.n then some v else none := by
      unfold valA
      rw [if_neg (fun z => a1 (sH_2.mpr z)), if_neg (fun z => a2 (sH_3.mpr z)), if_neg (fun z => a3 (sH_5.mpr z))]
      cases numA tx W s.at_ <;> rfl
    refine m_number hW (by omega) (by omega) (fun z => absurd z (by omega)) (fun _ hN => ⟨_, rfl, by show 1 < 2 ^ 31; decide, fun _ => ⟨by omega, by omega, ?_⟩, fun z => absurd z (by show ¬ (1 : Nat) = 0; decide)⟩) (fun v _ hN => ⟨_, rfl, by show s.wr < _; omega, fun z => absurd hwr z, fun _ => ?_⟩)
    · rw [hN] at hv
      exact h0 hv _
    · rw [hN] at hv
      have hv1000 := numA_lt hW.2.2.2.2.1 hN
      have e : (nI v < nI s.n) ↔ v < s.n := nI_ltI (by omega) (by omega)
      refine ⟨fun z => ⟨by omega, by omega, ?_⟩, fun z => ⟨by omega, by omega, ?_⟩⟩
      · have z' := e.mp z
        have hv' : valA s.n tx W s.at_ = some v := by rw [hv]; show (if v < s.n then some v else none) = _; rw [if_pos z']
        exact h1 v _ hv' (up2 _ _) (Or.inl ⟨z', (up_n (by omega)).trans up_s, up_s⟩)
      · have z' : ¬ v < s.n := fun y => z (e.mpr y)
        have hv' : valA s.n tx W s.at_ = none := by rw [hv]; show (if v < s.n then some v else none) = _; rw [if_neg z']
        exact h0 hv' _
  · have hv : valA s.n tx W s.at_ = some 1002 := by unfold valA; rw [if_neg (fun z => a1 (sH_2.mpr z)), if_neg (fun z => a2 (sH_3.mpr z)), if_pos (sH_5.mp a3)]
    rw [a3]
    exact h1 1002 _ hv (up1 _) (Or.inr (Or.inr (Or.inr ⟨rfl, up_s⟩)))
end M15
