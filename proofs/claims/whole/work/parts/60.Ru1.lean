/-! Rules: words of a text -/
def isL (c : Nat) : Bool := (decide (97 ≤ c) && decide (c ≤ 122)) || (decide (65 ≤ c) && decide (c ≤ 90))
def isD (c : Nat) : Bool := decide (48 ≤ c) && decide (c ≤ 57)
def wrun (p : Nat → Bool) (tx : Nat → Nat) : Nat → Nat → Nat
  | 0, e => e
  | d + 1, e => if p (tx e) = true then wrun p tx d (e + 1) else e
theorem wrun_s {p : Nat → Bool} {tx : Nat → Nat} {d e : Nat} : wrun p tx (d + 1) e = if p (tx e) = true then wrun p tx d (e + 1) else e := rfl
theorem wrun_b {p : Nat → Bool} {tx : Nat → Nat} : ∀ d e, e ≤ wrun p tx d e ∧ wrun p tx d e ≤ e + d ∧ ∀ i, e ≤ i → i < wrun p tx d e → p (tx i) = true
  | 0, e => ⟨Nat.le_refl _, Nat.le_refl _, fun i h1 h2 => absurd h2 (Nat.not_lt.mpr h1)⟩
  | d + 1, e => by
    rw [wrun_s]
    by_cases q : p (tx e) = true
    · rw [if_pos q]
      obtain ⟨a, b, c⟩ := wrun_b (p := p) (tx := tx) d (e + 1)
      refine ⟨by omega, by omega, fun i h1 h2 => ?_⟩
      by_cases z : i = e
      · subst z; exact q
      · exact c i (by omega) h2
    · rw [if_neg q]
      exact ⟨Nat.le_refl _, by omega, fun i h1 h2 => absurd h2 (Nat.not_lt.mpr h1)⟩
def wend (tx : Nat → Nat) (len f : Nat) : Nat := if isL (tx f) = true then wrun isL tx (len - (f + 1)) (f + 1) else if isD (tx f) = true then wrun isD tx (len - (f + 1)) (f + 1) else f + 1
theorem wend_b {tx : Nat → Nat} {len f : Nat} (hf : f < len) : f < wend tx len f ∧ wend tx len f ≤ len ∧ (isD (tx f) = true → ∀ i, f ≤ i → i < wend tx len f → isD (tx i) = true) := by
  unfold wend
  by_cases q : isL (tx f) = true
  · rw [if_pos q]
    obtain ⟨a, b, c⟩ := wrun_b (p := isL) (tx := tx) (len - (f + 1)) (f + 1)
    refine ⟨by omega, by omega, fun hd => ?_⟩
    unfold isL at q
    unfold isD at hd
    simp at q hd
    omega
  · rw [if_neg q]
    by_cases z : isD (tx f) = true
    · rw [if_pos z]
      obtain ⟨a, b, c⟩ := wrun_b (p := isD) (tx := tx) (len - (f + 1)) (f + 1)
      refine ⟨by omega, by omega, fun _ i h1 h2 => ?_⟩
      by_cases y : i = f
      · subst y; exact z
      · exact c i (by omega) h2
    · rw [if_neg z]
      exact ⟨by omega, by omega, fun hd => absurd hd z⟩
abbrev Wd : Type := (Nat → Nat) × (Nat → Nat) × Nat
def wPut (tx : Nat → Nat) (len f : Nat) (s : Wd) : Wd := if tx f = 32 then s else (va_up s.1 s.2.2 f, va_up s.2.1 s.2.2 (wend tx len f), s.2.2 + 1)
def spl (tx : Nat → Nat) (len : Nat) : Nat → Nat → Wd → Wd
  | 0, _, s => s
  | d + 1, f, s => if f < len then spl tx len d (wend tx len f) (wPut tx len f s) else s
theorem spl_s {tx : Nat → Nat} {len d f : Nat} {s : Wd} : spl tx len (d + 1) f s = if f < len then spl tx len d (wend tx len f) (wPut tx len f s) else s := rfl
/-- all words of a text -/
def wds (tx : Nat → Nat) (len : Nat) : Wd := spl tx len len 0 (fun _ => 0, fun _ => 0, 0)
abbrev wOK (tx : Nat → Nat) (len : Nat) (s : Wd) : Prop := ∀ k, k < s.2.2 → s.1 k < s.2.1 k ∧ s.2.1 k ≤ len ∧ (isD (tx (s.1 k)) = true → ∀ i, s.1 k ≤ i → i < s.2.1 k → isD (tx i) = true)
abbrev wEq (s s' : Wd) : Prop := s.2.2 = s'.2.2 ∧ ∀ k, k < s.2.2 → s.1 k = s'.1 k ∧ s.2.1 k = s'.2.1 k
theorem wPut_ok {tx : Nat → Nat} {len f : Nat} {s : Wd} (hf : f < len) (h : wOK tx len s) (hc : s.2.2 ≤ f) : wOK tx len (wPut tx len f s) ∧ (wPut tx len f s).2.2 ≤ f + 1 := by
  unfold wPut
  by_cases q : tx f = 32
  · rw [if_pos q]; exact ⟨h, by omega⟩
  · rw [if_neg q]
    refine ⟨fun k hk => ?_, by show s.2.2 + 1 ≤ f + 1; omega⟩
    have hk : k < s.2.2 + 1 := hk
    show va_up s.1 s.2.2 f k < va_up s.2.1 s.2.2 (wend tx len f) k ∧ va_up s.2.1 s.2.2 (wend tx len f) k ≤ len ∧ (isD (tx (va_up s.1 s.2.2 f k)) = true → ∀ i, va_up s.1 s.2.2 f k ≤ i → i < va_up s.2.1 s.2.2 (wend tx len f) k → isD (tx i) = true)
    by_cases z : k = s.2.2
    · subst z; rw [up_s, up_s]; exact wend_b hf
    · rw [up_n z, up_n z]; exact h k (by omega)
theorem wPut_eq {tx : Nat → Nat} {len f : Nat} {s s' : Wd} (h : wEq s s') : wEq (wPut tx len f s) (wPut tx len f s') := by
  unfold wPut
  by_cases q : tx f = 32
  · rw [if_pos q, if_pos q]; exact h
  · rw [if_neg q, if_neg q]
    refine ⟨by show s.2.2 + 1 = s'.2.2 + 1; rw [h.1], fun k hk => ?_⟩
    have hk : k < s.2.2 + 1 := hk
    show va_up s.1 s.2.2 f k = va_up s'.1 s'.2.2 f k ∧ va_up s.2.1 s.2.2 (wend tx len f) k = va_up s'.2.1 s'.2.2 (wend tx len f) k
    rw [← h.1]
    by_cases z : k = s.2.2
    · subst z; rw [up_s, up_s, up_s, up_s]; exact ⟨rfl, rfl⟩
    · rw [up_n z, up_n z, up_n z, up_n z]; exact h.2 k (by omega)
/-- rounds that are left over change nothing -/
theorem spl_end {tx : Nat → Nat} {len : Nat} : ∀ d d' f s, len ≤ f + d → len ≤ f + d' → spl tx len d f s = spl tx len d' f s
  | 0, 0, _, _, _, _ => rfl
  | 0, d' + 1, f, s, h1, _ => by rw [spl_s, if_neg (by omega)]; rfl
  | d + 1, 0, f, s, _, h2 => by rw [spl_s, if_neg (by omega)]; rfl
  | d + 1, d' + 1, f, s, h1, h2 => by
    rw [spl_s, spl_s]
    by_cases q : f < len
    · rw [if_pos q, if_pos q]
      have := (wend_b (tx := tx) q).1
      exact spl_end d d' _ _ (by omega) (by omega)
    · rw [if_neg q, if_neg q]
theorem spl_ok {tx : Nat → Nat} {len : Nat} : ∀ d f s, wOK tx len s → s.2.2 ≤ f → f ≤ len → wOK tx len (spl tx len d f s) ∧ (spl tx len d f s).2.2 ≤ len
  | 0, f, s, h, hc, hf => ⟨h, by show s.2.2 ≤ len; omega⟩
  | d + 1, f, s, h, hc, hf => by
    rw [spl_s]
    by_cases q : f < len
    · rw [if_pos q]
      obtain ⟨a, b, c⟩ := wend_b (tx := tx) q
      obtain ⟨p1, p2⟩ := wPut_ok q h hc
      exact spl_ok d _ _ p1 (by omega) b
    · rw [if_neg q]; exact ⟨h, by omega⟩
theorem wds_ok {tx : Nat → Nat} {len : Nat} : wOK tx len (wds tx len) ∧ (wds tx len).2.2 ≤ len := spl_ok len 0 _ (fun k hk => absurd hk (Nat.not_lt_zero _)) (Nat.zero_le _) (Nat.zero_le _)
section RU1
variable {g : xG} {post : xPost} {h : xHp} {nx : Nat}
theorem c_isLetter {c : Nat} (hc : c < 65536) (hp : post (some (.int (nI (if isL c = true then 1 else 0)))) h nx) : Ct g M_X7_isLetter [.int (nI c)] h nx post := by
  have yes : isL c = true → post (some (.int (nI 1))) h nx := fun q => by rw [if_pos q] at hp; exact hp
  have no : ¬ isL c = true → post (some (.int (nI 0))) h nx := fun q => by rw [if_neg q] at hp; exact hp
  have e : isL c = true ↔ (97 ≤ c ∧ c ≤ 122) ∨ (65 ≤ c ∧ c ≤ 90) := by unfold isL; simp
  exact Ct.of (by decide +kernel) (Nat.le_of_ble_eq_true rfl) (v_X7_isLetter_0 ⟨⟨by omega, by decide⟩, fun q => ⟨⟨by omega, by decide⟩, fun q2 => no (fun z => by have := e.mp z; omega), fun q2 => ⟨⟨by omega, by decide⟩, fun q3 => no (fun z => by have := e.mp z; omega), fun q3 => yes (e.mpr (by omega))⟩⟩, fun q => ⟨⟨by omega, by decide⟩, fun q2 => yes (e.mpr (by omega)), fun q2 => ⟨⟨by omega, by decide⟩, fun q3 => no (fun z => by have := e.mp z; omega), fun q3 => ⟨⟨by omega, by decide⟩, fun q4 => no (fun z => by have := e.mp z; omega), fun q4 => yes (e.mpr (by omega))⟩⟩⟩⟩)
theorem c_isDigit {c : Nat} (hc : c < 65536) (hp : post (some (.int (nI (if isD c = true then 1 else 0)))) h nx) : Ct g M_X7_isDigit [.int (nI c)] h nx post := by
  have yes : isD c = true → post (some (.int (nI 1))) h nx := fun q => by rw [if_pos q] at hp; exact hp
  have no : ¬ isD c = true → post (some (.int (nI 0))) h nx := fun q => by rw [if_neg q] at hp; exact hp
  have e : isD c = true ↔ (48 ≤ c ∧ c ≤ 57) := by unfold isD; simp
  exact Ct.of (by decide +kernel) (Nat.le_of_ble_eq_true rfl) (v_X7_isDigit_0 ⟨⟨by omega, by decide⟩, fun q => no (fun z => by have := e.mp z; omega), fun q => ⟨⟨by omega, by decide⟩, fun q2 => no (fun z => by have := e.mp z; omega), fun q2 => yes (e.mpr (by omega))⟩⟩)
theorem c_wordEnd {q n len w nxt hd dr f : Nat} {tx ws we : Nat → Nat} {R D : Rl} (hU : RuAt h q n tx len ws we w nxt hd dr R D) (hl : len ≤ 120) (ht : ∀ i, i < len → tx i < 65536) (hf : f < len) (hp : post (some (.int (nI (wend tx len f)))) h nx) : Ct g M_X7_wordEnd [.ref q, .int (nI f)] h nx post := by
  have l16 : ∀ d e, len - e = d → e ≤ len → post (some (.int (nI (wrun isL tx d e)))) h nx → Blk g M_X7_wordEnd post 16 [(0, .ref q), (2, .int (nI e))] [] h nx 0 0 := by
    intro d
    induction d with
    | zero =>
      intro e hd he hp'
      exact v_X7_wordEnd_16 ⟨_, _, _, _, _, _, _, _, _, hU.1, ⟨by omega, by omega⟩, fun _ => hp', fun z => absurd z (by omega)⟩
    | succ d ih =>
      intro e hd he hp'
      rw [wrun_s] at hp'
      refine v_X7_wordEnd_16 ⟨_, _, _, _, _, _, _, _, _, hU.1, ⟨by omega, by omega⟩, fun z => absurd z (by omega), fun _ => ⟨_, _, hU.2.1, by omega, by decide, c_isLetter (ht e (by omega)) ⟨_, rfl, by split <;> decide, fun z => ?_, fun z => ?_⟩⟩⟩
      · by_cases y : isL (tx e) = true
        · rw [if_pos y] at z; exact absurd z (by decide)
        · rw [if_neg y] at hp'; exact hp'
      · by_cases y : isL (tx e) = true
        · rw [if_pos y] at hp'; exact ih (e + 1) (by omega) (by omega) hp'
        · rw [if_neg y] at z; exact absurd rfl z
  have l54 : ∀ d e, len - e = d → e ≤ len → post (some (.int (nI (wrun isD tx d e)))) h nx → Blk g M_X7_wordEnd post 54 [(0, .ref q), (2, .int (nI e))] [] h nx 0 0 := by
    intro d
    induction d with
    | zero =>
      intro e hd he hp'
      exact v_X7_wordEnd_54 ⟨_, _, _, _, _, _, _, _, _, hU.1, ⟨by omega, by omega⟩, fun _ => hp', fun z => absurd z (by omega)⟩
    | succ d ih =>
      intro e hd he hp'
      rw [wrun_s] at hp'
      refine v_X7_wordEnd_54 ⟨_, _, _, _, _, _, _, _, _, hU.1, ⟨by omega, by omega⟩, fun z => absurd z (by omega), fun _ => ⟨_, _, hU.2.1, by omega, by decide, c_isDigit (ht e (by omega)) ⟨_, rfl, by split <;> decide, fun z => ?_, fun z => ?_⟩⟩⟩
      · by_cases y : isD (tx e) = true
        · rw [if_pos y] at z; exact absurd z (by decide)
        · rw [if_neg y] at hp'; exact hp'
      · by_cases y : isD (tx e) = true
        · rw [if_pos y] at hp'; exact ih (e + 1) (by omega) (by omega) hp'
        · rw [if_neg y] at z; exact absurd rfl z
  unfold wend at hp
  refine Ct.of (by decide +kernel) (Nat.le_of_ble_eq_true rfl) (v_X7_wordEnd_0 ⟨_, _, _, _, _, _, _, _, _, hU.1, _, _, hU.2.1, by omega, by decide, c_isLetter (ht f hf) ⟨_, rfl, by split <;> decide, fun z => ?_, fun z => ?_⟩⟩)
  · by_cases y : isL (tx f) = true
    · rw [if_pos y] at z; exact absurd z (by decide)
    · rw [if_neg y] at hp
      refine ⟨_, _, _, _, _, _, _, _, _, hU.1, _, _, hU.2.1, by omega, by decide, c_isDigit (ht f hf) ⟨_, rfl, by split <;> decide, fun z2 => ?_, fun z2 => ?_⟩⟩
      · by_cases y2 : isD (tx f) = true
        · rw [if_pos y2] at z2; exact absurd z2 (by decide)
        · rw [if_neg y2] at hp; exact hp
      · by_cases y2 : isD (tx f) = true
        · rw [if_pos y2] at hp; exact l54 _ _ rfl (by omega) hp
        · rw [if_neg y2] at z2; exact absurd rfl z2
  · by_cases y : isL (tx f) = true
    · rw [if_pos y] at hp; exact l16 _ _ rfl (by omega) hp
    · rw [if_neg y] at z; exact absurd rfl z
theorem RuAt.setW {h : xHp} {q n len w nxt hd dr : Nat} {tx ws we ws' we' : Nat → Nat} {R D : Rl} (k : RuAt h q n tx len ws we w nxt hd dr R D) : RuAt (xup (xup h (q + 2) (xna 120 ws')) (q + 3) (xna 120 we')) q n tx len ws' we' w nxt hd dr R D := by
  obtain ⟨k0, k1, k2, k3, k4, k5, k6⟩ := k
  exact ⟨(xup_n (by omega)).trans ((xup_n (by omega)).trans k0), (xup_n (by omega)).trans ((xup_n (by omega)).trans k1), (xup_n (by omega)).trans (xup_s _ _ _), xup_s _ _ _, k4, k5.ofq (fun a x y => (xup_n (by omega)).trans (xup_n (by omega))), k6.ofq (fun a x y => (xup_n (by omega)).trans (xup_n (by omega)))⟩
theorem c_splitWords {q n len w nxt hd dr : Nat} {tx ws we : Nat → Nat} {R D : Rl} (hU : RuAt h q n tx len ws we w nxt hd dr R D) (hl : len ≤ 120) (ht : ∀ i, i < len → tx i < 65536) (hp : ∀ h' ws' we', RuAt h' q n tx len ws' we' (wds tx len).2.2 nxt hd dr R D → (∀ k, k < (wds tx len).2.2 → ws' k = (wds tx len).1 k ∧ we' k = (wds tx len).2.1 k) → Off q 16 h h' → post none h' nx) : Ct g M_X7_splitWords [.ref q] h nx post := by
  have main : ∀ d i f (s s' : Wd) (h' : xHp), 120 - i = d → i ≤ 120 → i ≤ f → f ≤ len → RuAt h' q n tx len s.1 s.2.1 s.2.2 nxt hd dr R D → Off q 16 h h' → wEq s s' → s.2.2 ≤ f → spl tx len d f s' = wds tx len → Blk g M_X7_splitWords post 9 [(0, .ref q), (1, .int (nI f)), (2, .int (nI i))] [] h' nx 0 0 := by
    intro d
    induction d with
    | zero =>
      intro i f s s' h' hd hi hif hf hU' hO he hc hs
      have hs : s' = wds tx len := hs
      rw [hs] at he
      refine v_X7_splitWords_9 ⟨⟨by omega, by decide⟩, fun _ => hp h' s.1 s.2.1 ?_ (fun k hk => he.2 k (by rw [he.1]; exact hk)) hO, fun z => absurd z (by omega)⟩
      rw [← he.1]; exact hU'
    | succ d ih =>
      intro i f s s' h' hd hi hif hf hU' hO he hc hs
      rw [spl_s] at hs
      refine v_X7_splitWords_9 ⟨⟨by omega, by decide⟩, fun z => absurd z (by omega), fun _ => ⟨_, _, _, _, _, _, _, _, _, hU'.1, ⟨by omega, by omega⟩, fun z => ?_, fun z => c_wordEnd hU' hl ht z ⟨_, rfl, _, _, _, _, _, _, _, _, _, hU'.1, _, _, hU'.2.1, by omega, by decide, ⟨by have := ht f z; omega, by decide⟩, fun z2 => ?_, fun z2 => ⟨⟨by omega, by decide⟩, fun z3 => absurd z3 (by omega), fun z3 => ⟨_, _, hU'.2.2.1, by omega, by decide, _, _, hU'.2.2.2.1, by omega, by omega, by decide, ?_⟩⟩⟩⟩⟩
      · rw [if_neg (by omega)] at hs
        rw [hs] at he
        refine hp h' s.1 s.2.1 ?_ (fun k hk => he.2 k (by rw [he.1]; exact hk)) hO
        rw [← he.1]; exact hU'
      · rw [if_pos z] at hs
        obtain ⟨a, b, c⟩ := wend_b (tx := tx) z
        have e1 : wPut tx len f s' = s' := if_pos z2
        rw [e1] at hs
        exact ih (i + 1) _ s s' h' (by omega) (by omega) (by omega) b hU' hO he (by omega) hs
      · rw [if_pos z] at hs
        obtain ⟨a, b, c⟩ := wend_b (tx := tx) z
        have he2 := wPut_eq (tx := tx) (len := len) (f := f) he
        have e1 : wPut tx len f s = (va_up s.1 s.2.2 f, va_up s.2.1 s.2.2 (wend tx len f), s.2.2 + 1) := if_neg z2
        rw [e1] at he2
        exact ih (i + 1) _ (va_up s.1 s.2.2 f, va_up s.2.1 s.2.2 (wend tx len f), s.2.2 + 1) _ _ (by omega) (by omega) (by omega) b hU'.setW.setO (((hO.up (by omega) (by omega)).up (by omega) (by omega)).up (by omega) (by omega)) he2 (by show s.2.2 + 1 ≤ _; omega) hs
  refine Ct.of (by decide +kernel) (Nat.le_of_ble_eq_true rfl) (v_X7_splitWords_0 ⟨_, _, _, _, _, _, _, _, _, hU.1, ?_⟩)
  refine main 120 0 0 (ws, we, 0) (fun _ => 0, fun _ => 0, 0) _ rfl (by decide) (Nat.le_refl _) (Nat.zero_le _) hU.setO (Off.rf.up (by omega) (by omega)) ⟨rfl, fun k hk => absurd hk (Nat.not_lt_zero _)⟩ (Nat.le_refl _) ?_
  exact spl_end 120 len 0 _ (by omega) (by omega)
end RU1
