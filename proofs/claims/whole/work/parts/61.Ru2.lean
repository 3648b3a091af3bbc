/-! Rules: numbers -/
def numF (tx : Nat → Nat) : Nat → Nat → Nat → Nat
  | 0, _, v => v
  | d + 1, i, v => numF tx d (i + 1) (v * 10 + (tx i - 48))
/-- the number at a word -/
def numA (tx : Nat → Nat) (s : Wd) (k : Nat) : Option Nat := if k < s.2.2 ∧ s.2.1 k - s.1 k ≤ 3 ∧ isD (tx (s.1 k)) = true then some (numF tx (s.2.1 k - s.1 k) (s.1 k) 0) else none
theorem numF_lt {tx : Nat → Nat} : ∀ d i v, (∀ j, i ≤ j → j < i + d → tx j ≤ 57) → numF tx d i v < (v + 1) * 10 ^ d
  | 0, _, v, _ => by show v < (v + 1) * 1; omega
  | d + 1, i, v, h => by
    show numF tx d (i + 1) (v * 10 + (tx i - 48)) < _
    have h1 := h i (Nat.le_refl _) (by omega)
    have h2 := numF_lt d (i + 1) (v * 10 + (tx i - 48)) (fun j a b => h j (by omega) (by omega))
    have h3 : (v * 10 + (tx i - 48) + 1) * 10 ^ d ≤ ((v + 1) * 10) * 10 ^ d := Nat.mul_le_mul_right _ (by omega)
    have h4 : (v + 1) * 10 ^ (d + 1) = ((v + 1) * 10) * 10 ^ d := by rw [Nat.pow_succ]; grind
    omega
theorem numA_lt {tx : Nat → Nat} {len k v : Nat} {s : Wd} (hw : wOK tx len s) (h : numA tx s k = some v) : v < 1000 := by
  unfold numA at h
  split at h
  · rename_i q
    have e := Option.some.inj h
    obtain ⟨a, b, c⟩ := hw k q.1
    have h1 := numF_lt (tx := tx) (s.2.1 k - s.1 k) (s.1 k) 0 (fun j x y => by
      have := c q.2.2 j x (by omega)
      unfold isD at this
      simp at this
      omega)
    have h2 : (10 : Nat) ^ (s.2.1 k - s.1 k) ≤ 10 ^ 3 := Nat.pow_le_pow_right (by decide) q.2.1
    omega
  · cases h
section RU2
variable {g : xG} {post : xPost} {h : xHp} {nx : Nat}
theorem c_numberAt {q n len len0 w nxt hd dr k : Nat} {tx ws we : Nat → Nat} {R D : Rl} (hU : RuAt h q n tx len0 ws we w nxt hd dr R D) (hl : len ≤ 120) (ht : ∀ i, i < len → tx i < 65536) (hw : wOK tx len (ws, we, w)) (hwl : w ≤ 120) (hk : k < 2 ^ 31) (hp : post (some (.int (oI (numA tx (ws, we, w) k)))) h nx) : Ct g M_X7_numberAt [.ref q, .int (nI k)] h nx post := by
  have no : ¬ (k < w ∧ we k - ws k ≤ 3 ∧ isD (tx (ws k)) = true) → post (some (.int (-1))) h nx := by
    intro z
    have e : numA tx (ws, we, w) k = none := if_neg z
    rw [e] at hp; exact hp
  refine Ct.of (by decide +kernel) (Nat.le_of_ble_eq_true rfl) (v_X7_numberAt_0 ⟨hk, _, _, _, _, _, _, _, _, _, hU.1, ⟨hk, by omega⟩, fun z => no (fun y => by omega), fun z => ?_⟩)
  obtain ⟨a, b, c⟩ := hw k z
  have a : ws k < we k := a
  have b : we k ≤ len := b
  refine ⟨_, _, hU.2.2.2.1, by omega, by decide, _, _, hU.2.2.1, by omega, by decide, by omega, ⟨by omega, by decide⟩, fun z2 => no (fun y => by omega), fun z2 => ⟨by omega, by decide, _, _, hU.2.1, by omega, by decide, c_isDigit (ht _ (by omega)) ⟨_, rfl, by split <;> decide, fun z3 => ?_, fun z3 => ?_⟩⟩⟩
  · by_cases y : isD (tx (ws k)) = true
    · have e : numA tx (ws, we, w) k = some (numF tx (we k - ws k) (ws k) 0) := if_pos ⟨z, z2, y⟩
      rw [e] at hp
      have main : ∀ d i v, we k - i = d → i ≤ we k → ws k ≤ i → numF tx d i v = numF tx (we k - ws k) (ws k) 0 → Blk g M_X7_numberAt post 57 [(0, .ref q), (1, .int (nI k)), (2, .int (nI v)), (3, .int (nI i))] [] h nx 0 0 := by
        intro d
        induction d with
        | zero =>
          intro i v hd hi hi2 he
          have he : v = numF tx (we k - ws k) (ws k) 0 := he
          refine v_X7_numberAt_57 ⟨_, _, _, _, _, _, _, _, _, hU.1, _, _, hU.2.2.2.1, by omega, by decide, ⟨by omega, by omega⟩, fun _ => ?_, fun y => absurd y (by omega)⟩
          rw [he]; exact hp
        | succ d ih =>
          intro i v hd hi hi2 he
          have hdig := c y i hi2 (by show i < we k; omega)
          unfold isD at hdig
          simp at hdig
          exact v_X7_numberAt_57 ⟨_, _, _, _, _, _, _, _, _, hU.1, _, _, hU.2.2.2.1, by omega, by decide, ⟨by omega, by omega⟩, fun y => absurd y (by omega), fun _ => ⟨_, _, hU.2.1, by omega, by decide, hdig.1, ih (i + 1) _ (by omega) (by omega) (by omega) he⟩⟩
      exact ⟨_, _, _, _, _, _, _, _, _, hU.1, _, _, hU.2.2.1, by omega, by decide, main _ _ 0 rfl (by omega) (Nat.le_refl _) rfl⟩
    · rw [if_neg y] at z3; exact absurd rfl z3
  · by_cases y : isD (tx (ws k)) = true
    · rw [if_pos y] at z3; exact absurd z3 (by decide)
    · exact no (fun w => y w.2.2)
end RU2
