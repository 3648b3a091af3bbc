/-! Rules: words that are known -/
def litC (j : Nat) : List Nat := [[110], [35], [109, 97, 120], [60], [61], [62], [109, 105, 110], [109, 105, 100], [58], [59]].getD j []
def wIs (tx : Nat → Nat) (s : Wd) (k j : Nat) : Bool := decide (k < s.2.2) && decide (s.2.1 k - s.1 k = (litC j).length) && (List.range (litC j).length).all (fun i => decide (tx (s.1 k + i) = (litC j).getD i 0))
def isC (tx : Nat → Nat) (s : Wd) (k : Nat) : Bool := wIs tx s k 3 || wIs tx s k 4 || wIs tx s k 5
def amtA (tx : Nat → Nat) (s : Wd) (k : Nat) : Nat := if wIs tx s k 0 = true then 1 else if wIs tx s k 1 = true then 4 else if (wIs tx s k 2 && isC tx s (k + 1)) = true then 2 else if (wIs tx s k 6 && isC tx s (k + 1)) = true then 3 else 0
def valA (n : Nat) (tx : Nat → Nat) (s : Wd) (k : Nat) : Option Nat := if wIs tx s k 2 = true then some 1000 else if wIs tx s k 6 = true then some 1001 else if wIs tx s k 7 = true then some 1002 else match numA tx s k with
  | none => none
  | some v => if v < n then some v else none
abbrev Rd : Type := Bool × Nat × Rl
def rdV (n : Nat) (tx : Nat → Nat) (s : Wd) (k : Nat) (D : Rl) (a c cm b : Nat) : Rd := match valA n tx s k with
  | none => (false, k, D)
  | some v => (true, k + 1, rlAdd D a c cm b v)
def rdB (n : Nat) (tx : Nat → Nat) (s : Wd) (k : Nat) (D : Rl) (a c : Nat) : Rd := if isC tx s k = true then (match numA tx s (k + 1) with
  | none => (false, k + 1, D)
  | some b => if wIs tx s (k + 2) 8 = true then rdV n tx s (k + 3) D a c (tx (s.1 k)) b else (false, k + 2, D)) else (false, k, D)
def rdR (n : Nat) (tx : Nat → Nat) (s : Wd) (k : Nat) (D : Rl) : Rd := if amtA tx s k = 0 then rdV n tx s k D 0 0 61 0 else if amtA tx s k = 4 then (match numA tx s (k + 1) with
  | none => (false, k + 1, D)
  | some c => rdB n tx s (k + 2) D 4 c) else rdB n tx s (k + 1) D (amtA tx s k) 0
def rdRs (n : Nat) (tx : Nat → Nat) (s : Wd) : Nat → Nat → Rl → Rd
  | 0, k, D => (false, k, D)
  | d + 1, k, D => if (rdR n tx s k D).1 = true then (if (rdR n tx s k D).2.1 = s.2.2 then (true, (rdR n tx s k D).2) else if wIs tx s (rdR n tx s k D).2.1 9 = true then rdRs n tx s d ((rdR n tx s k D).2.1 + 1) (rdR n tx s k D).2.2 else (false, (rdR n tx s k D).2)) else (false, (rdR n tx s k D).2)
section RU3
variable {g : xG} {post : xPost} {h : xHp} {nx : Nat}
theorem litC_tab : ∀ j, j < 10 → (litC j).length = xLen.getD j 0 ∧ ∀ i, i < 3 → i < xLen.getD j 0 → (litC j).getD i 0 = bN j i := by decide
theorem litC_len : ∀ j, j < 10 → (litC j).length ≤ 3 := by decide
theorem c_wordIs {q n len len0 w nxt hd dr k j : Nat} {tx ws we : Nat → Nat} {R D : Rl} (hU : RuAt h q n tx len0 ws we w nxt hd dr R D) (hl : len ≤ 120) (ht : ∀ i, i < len → tx i < 65536) (hw : wOK tx len (ws, we, w)) (hwl : w ≤ 120) (hk : k < 2 ^ 31) (hj : j < 10) (hp : post (some (.int (nI (if wIs tx (ws, we, w) k j = true then 1 else 0)))) h nx) : Ct g M_X7_wordIs [.ref q, .int (nI k), .ref (gS g j)] h nx post := by
  obtain ⟨hlen, htab⟩ := litC_tab j hj
  have hl3 := litC_len j hj
  rw [hlen] at hl3
  have loop : ∀ d i, xLen.getD j 0 - i = d → i ≤ xLen.getD j 0 → k < w → we k - ws k = xLen.getD j 0 → (∀ m, m < i → tx (ws k + m) = (litC j).getD m 0) → Blk g M_X7_wordIs post 36 [(0, .ref q), (1, .int (nI k)), (2, .ref (gS g j)), (3, .int (nI i))] [] h nx 0 0 := by
    intro d
    induction d with
    | zero =>
      intro i hd' hi hkw he hm
      refine v_X7_wordIs_36 (j := j) ⟨by omega, c_sLen (j := j) (by omega) ⟨_, rfl, fun _ => ?_, fun z => absurd ((nI_leI (by omega) (by omega)).mpr (by omega)) z⟩⟩
      have e : wIs tx (ws, we, w) k j = true := by
        unfold wIs
        rw [hlen]
        simp only [Bool.and_eq_true, decide_eq_true_eq, List.all_eq_true, List.mem_range]
        exact ⟨⟨hkw, he⟩, fun m hm' => hm m (by omega)⟩
      rw [if_pos e] at hp; exact hp
    | succ d ih =>
      intro i hd' hi hkw he hm
      obtain ⟨a1, a2, _⟩ := hw k hkw
      replace a1 : ws k < we k := a1
      replace a2 : we k ≤ len := a2
      have hti := ht (ws k + i) (by omega)
      have hb := (bN_tab j (by omega) i (by omega) (by omega)).2
      have ht2 := htab i (by omega) (by omega)
      refine v_X7_wordIs_36 (j := j) ⟨by omega, c_sLen (j := j) (by omega) ⟨_, rfl, fun z => absurd ((nI_leI (by omega) (by omega)).mp z) (by omega), fun _ => ⟨_, _, _, _, _, _, _, _, _, hU.1, _, _, hU.2.2.1, by omega, by decide, _, _, hU.2.1, by omega, by decide, by omega, c_sCharAt (j := j) (by omega) (by omega) ⟨_, rfl, ⟨by omega, by omega⟩, fun z => ?_, fun z => ?_⟩⟩⟩⟩
      · refine ih (i + 1) (by omega) (by omega) hkw he (fun m hm' => ?_)
        by_cases c : m = i
        · rw [c, ht2]; exact z
        · exact hm m (by omega)
      · have e : ¬ wIs tx (ws, we, w) k j = true := by
          intro e
          unfold wIs at e
          rw [hlen] at e
          simp only [Bool.and_eq_true, decide_eq_true_eq, List.all_eq_true, List.mem_range] at e
          exact z ((e.2 i (by omega)).trans ht2)
        rw [if_neg e] at hp; exact hp
  have no : (¬ k < w ∨ ¬ we k - ws k = xLen.getD j 0) → post (some (.int (nI 0))) h nx := by
    intro c
    have e : ¬ wIs tx (ws, we, w) k j = true := by
      intro e
      unfold wIs at e
      rw [hlen] at e
      simp only [Bool.and_eq_true, decide_eq_true_eq] at e
      rcases c with c | c
      · exact c e.1.1
      · exact c e.1.2
    rw [if_neg e] at hp; exact hp
  refine Ct.of (by decide +kernel) (Nat.le_of_ble_eq_true rfl) (v_X7_wordIs_0 ⟨hk, _, _, _, _, _, _, _, _, _, hU.1, ⟨hk, by omega⟩, fun z => no (Or.inl (by omega)), fun z => ?_⟩)
  obtain ⟨a1, a2, _⟩ := hw k z
  replace a1 : ws k < we k := a1
  replace a2 : we k ≤ len := a2
  refine ⟨_, _, hU.2.2.2.1, by omega, by decide, _, _, hU.2.2.1, by omega, by decide, by omega, by omega, c_sLen (j := j) (by omega) ⟨_, rfl, fun z2 => ?_, fun z2 => ?_⟩⟩
  · exact loop _ 0 rfl (by omega) z ((nI_eq (by omega) (by omega)).mp z2) (fun m hm => absurd hm (by omega))
  · exact no (Or.inr (fun e => z2 (by rw [e])))
theorem c_isComparison {q n len len0 w nxt hd dr k : Nat} {tx ws we : Nat → Nat} {R D : Rl} (hU : RuAt h q n tx len0 ws we w nxt hd dr R D) (hl : len ≤ 120) (ht : ∀ i, i < len → tx i < 65536) (hw : wOK tx len (ws, we, w)) (hwl : w ≤ 120) (hk : k < 2 ^ 31) (hp : post (some (.int (nI (if isC tx (ws, we, w) k = true then 1 else 0)))) h nx) : Ct g M_X7_isComparison [.ref q, .int (nI k)] h nx post := by
  have yes : isC tx (ws, we, w) k = true → post (some (.int (nI 1))) h nx := fun z => by rw [if_pos z] at hp; exact hp
  have no : ¬ isC tx (ws, we, w) k = true → post (some (.int (nI 0))) h nx := fun z => by rw [if_neg z] at hp; exact hp
  refine Ct.of (by decide +kernel) (Nat.le_of_ble_eq_true rfl) (v_X7_isComparison_0 ⟨_, _, _, _, _, _, _, _, _, hU.1, c_wordIs hU hl ht hw hwl hk (by decide) ⟨_, rfl, by split <;> decide, fun z => ?_, fun z => ⟨_, _, _, _, _, _, _, _, _, hU.1, c_wordIs hU hl ht hw hwl hk (by decide) ⟨_, rfl, by split <;> decide, fun z2 => ?_, fun z2 => ⟨_, _, _, _, _, _, _, _, _, hU.1, c_wordIs hU hl ht hw hwl hk (by decide) ⟨_, rfl, by split <;> decide, fun z3 => ?_, fun z3 => ?_⟩⟩⟩⟩⟩⟩)
  · by_cases y : wIs tx (ws, we, w) k 3 = true
    · exact yes (by unfold isC; rw [y]; rfl)
    · rw [if_neg y] at z; exact absurd rfl z
  · by_cases y : wIs tx (ws, we, w) k 4 = true
    · exact yes (by unfold isC; rw [y]; simp)
    · rw [if_neg y] at z2; exact absurd rfl z2
  · refine no (fun y => ?_)
    unfold isC at y
    by_cases y3 : wIs tx (ws, we, w) k 3 = true
    · rw [if_pos y3] at z; exact absurd z (by decide)
    · by_cases y4 : wIs tx (ws, we, w) k 4 = true
      · rw [if_pos y4] at z2; exact absurd z2 (by decide)
      · by_cases y5 : wIs tx (ws, we, w) k 5 = true
        · rw [if_pos y5] at z3; exact absurd z3 (by decide)
        · simp [y3, y4, y5] at y
  · by_cases y : wIs tx (ws, we, w) k 5 = true
    · exact yes (by unfold isC; rw [y]; simp)
    · rw [if_neg y] at z3; exact absurd rfl z3
theorem c_valueAt {q n len len0 w nxt hd dr k : Nat} {tx ws we : Nat → Nat} {R D : Rl} (hn : n ≤ 6) (hU : RuAt h q n tx len0 ws we w nxt hd dr R D) (hl : len ≤ 120) (ht : ∀ i, i < len → tx i < 65536) (hw : wOK tx len (ws, we, w)) (hwl : w ≤ 120) (hk : k < 2 ^ 31) (hp : post (some (.int (oI (valA n tx (ws, we, w) k)))) h nx) : Ct g M_X7_valueAt [.ref q, .int (nI k)] h nx post := by
  unfold valA at hp
  refine Ct.of (by decide +kernel) (Nat.le_of_ble_eq_true rfl) (v_X7_valueAt_0 ⟨_, _, _, _, _, _, _, _, _, hU.1, c_wordIs hU hl ht hw hwl hk (by decide) ⟨_, rfl, by split <;> decide, fun z => ⟨_, _, _, _, _, _, _, _, _, hU.1, c_wordIs hU hl ht hw hwl hk (by decide) ⟨_, rfl, by split <;> decide, fun z2 => ⟨_, _, _, _, _, _, _, _, _, hU.1, c_wordIs hU hl ht hw hwl hk (by decide) ⟨_, rfl, by split <;> decide, fun z3 => ⟨_, _, _, _, _, _, _, _, _, hU.1, c_numberAt hU hl ht hw hwl hk ⟨_, rfl, _, _, _, _, _, _, _, _, _, hU.1, ?_⟩⟩, fun z3 => ?_⟩⟩, fun z2 => ?_⟩⟩, fun z => ?_⟩⟩)
  · by_cases y3 : wIs tx (ws, we, w) k 2 = true
    · rw [if_pos y3] at z; exact absurd z (by decide)
    · by_cases y4 : wIs tx (ws, we, w) k 6 = true
      · rw [if_pos y4] at z2; exact absurd z2 (by decide)
      · by_cases y5 : wIs tx (ws, we, w) k 7 = true
        · rw [if_pos y5] at z3; exact absurd z3 (by decide)
        · rw [if_neg y3, if_neg y4, if_neg y5] at hp
          match hv : numA tx (ws, we, w) k with
          | none =>
            rw [hv] at hp
            exact ⟨fun _ => hp, fun _ => hp⟩
          | some v =>
            rw [hv] at hp
            have hv3 := numA_lt hw hv
            have hp : post (some (.int (oI (if v < n then some v else none)))) h nx := hp
            refine ⟨fun y => ?_, fun y => ?_⟩
            · have y : nI n ≤ nI v := y
              have := (nI_leI (by omega) (by omega)).mp y
              rw [if_neg (by omega)] at hp; exact hp
            · have hlt : v < n := by
                rcases Nat.lt_or_ge v n with t | t
                · exact t
                · exact absurd (nI_le t (by omega)) y
              rw [if_pos hlt] at hp; exact hp
  · by_cases y3 : wIs tx (ws, we, w) k 2 = true
    · rw [if_pos y3] at z; exact absurd z (by decide)
    · by_cases y4 : wIs tx (ws, we, w) k 6 = true
      · rw [if_pos y4] at z2; exact absurd z2 (by decide)
      · by_cases y5 : wIs tx (ws, we, w) k 7 = true
        · rw [if_neg y3, if_neg y4, if_pos y5] at hp; exact hp
        · rw [if_neg y5] at z3; exact absurd rfl z3
  · by_cases y3 : wIs tx (ws, we, w) k 2 = true
    · rw [if_pos y3] at z; exact absurd z (by decide)
    · by_cases y4 : wIs tx (ws, we, w) k 6 = true
      · rw [if_neg y3, if_pos y4] at hp; exact hp
      · rw [if_neg y4] at z2; exact absurd rfl z2
  · by_cases y3 : wIs tx (ws, we, w) k 2 = true
    · rw [if_pos y3] at hp; exact hp
    · rw [if_neg y3] at z; exact absurd rfl z
end RU3
