/-! Rules: a text read; StateShares: grade -/
theorem wIs_congr {tx : Nat → Nat} {s s' : Wd} (h : wEq s s') (k j : Nat) : wIs tx s k j = wIs tx s' k j := by
  unfold wIs
  rw [← h.1]
  by_cases z : k < s.2.2
  · obtain ⟨e1, e2⟩ := h.2 k z
    rw [e1, e2]
  · rw [decide_eq_false z]
    rfl
theorem isC_congr {tx : Nat → Nat} {s s' : Wd} (h : wEq s s') (k : Nat) : isC tx s k = isC tx s' k := by
  unfold isC
  rw [wIs_congr h, wIs_congr h, wIs_congr h]
theorem numA_congr {tx : Nat → Nat} {s s' : Wd} (h : wEq s s') (k : Nat) : numA tx s k = numA tx s' k := by
  unfold numA
  rw [← h.1]
  by_cases z : k < s.2.2
  · obtain ⟨e1, e2⟩ := h.2 k z
    rw [e1, e2]
  · rw [if_neg (fun y => z y.1), if_neg (fun y => z y.1)]
theorem amtA_congr {tx : Nat → Nat} {s s' : Wd} (h : wEq s s') (k : Nat) : amtA tx s k = amtA tx s' k := by
  unfold amtA
  rw [wIs_congr h, wIs_congr h, wIs_congr h, wIs_congr h, isC_congr h]
theorem valA_congr {n : Nat} {tx : Nat → Nat} {s s' : Wd} (h : wEq s s') (k : Nat) : valA n tx s k = valA n tx s' k := by
  unfold valA
  rw [wIs_congr h, wIs_congr h, wIs_congr h, numA_congr h]
theorem rdV_congr {n : Nat} {tx : Nat → Nat} {s s' : Wd} (h : wEq s s') (k : Nat) (D : Rl) (a c cm b : Nat) : rdV n tx s k D a c cm b = rdV n tx s' k D a c cm b := by
  unfold rdV
  rw [valA_congr h]
theorem rdB_congr {n : Nat} {tx : Nat → Nat} {s s' : Wd} (h : wEq s s') (k : Nat) (D : Rl) (a c : Nat) : rdB n tx s k D a c = rdB n tx s' k D a c := by
  unfold rdB
  rw [← isC_congr h, ← numA_congr h, ← wIs_congr h]
  by_cases z : isC tx s k = true
  · rw [if_pos z, if_pos z, (h.2 k (isC_lt z)).1]
    have e : ∀ b, rdV n tx s (k + 3) D a c (tx (s'.1 k)) b = rdV n tx s' (k + 3) D a c (tx (s'.1 k)) b := fun b => rdV_congr h _ _ _ _ _ _
    split
    · rfl
    · rw [e]
  · rw [if_neg z, if_neg z]
theorem rdR_congr {n : Nat} {tx : Nat → Nat} {s s' : Wd} (h : wEq s s') (k : Nat) (D : Rl) : rdR n tx s k D = rdR n tx s' k D := by
  unfold rdR
  rw [← amtA_congr h, ← numA_congr h, rdV_congr h, rdB_congr h]
  have e : ∀ c, rdB n tx s (k + 2) D 4 c = rdB n tx s' (k + 2) D 4 c := fun c => rdB_congr h _ _ _ _
  split
  · rfl
  · split
    · split
      · rfl
      · rw [e]
    · rfl
theorem rdRs_congr {n : Nat} {tx : Nat → Nat} {s s' : Wd} (h : wEq s s') : ∀ d k D, rdRs n tx s d k D = rdRs n tx s' d k D
  | 0, _, _ => rfl
  | d + 1, k, D => by
    rw [rdRs_s, rdRs_s, rdR_congr h, wIs_congr h, h.1, rdRs_congr h d]
section RU7
variable {g : xG} {post : xPost} {h : xHp} {nx : Nat}
abbrev rl0D (D : Rl) : Rl := (D.1, D.2.1, D.2.2.1, D.2.2.2.1, D.2.2.2.2.1, 0)
abbrev rdA (n : Nat) (tx : Nat → Nat) (len : Nat) (D : Rl) : Rd := rdRs n tx (wds tx len) 20 0 (rl0D D)
theorem c_readCollected {q n len w nxt hd dr : Nat} {tx ws we : Nat → Nat} {R D : Rl} (hn : n ≤ 6) (hU : RuAt h q n tx len ws we w nxt hd dr R D) (hl : len ≤ 120) (ht : ∀ i, i < len → tx i < 65536)
    (hp1 : (rdA n tx len D).1 = true → rlOK n (rdA n tx len D).2.2 → ∀ h' ws' we' w' k', RuAt h' q n tx 0 ws' we' w' k' dr hd (rdA n tx len D).2.2 R → Off q 16 h h' → post (some (.int (nI (rdA n tx len D).2.2.2.2.2.2.2))) h' nx)
    (hp0 : (rdA n tx len D).1 = false → ∀ h' ws' we' w' k', RuAt h' q n tx 0 ws' we' w' k' hd dr R (rdA n tx len D).2.2 → Off q 16 h h' → post (some (.int ((-1) - nI (rdA n tx len D).2.1))) h' nx) : Ct g M_X7_readCollected [.ref q] h nx post := by
  refine Ct.of (by decide +kernel) (Nat.le_of_ble_eq_true rfl) (v_X7_readCollected_0 ⟨_, _, _, _, _, _, _, _, _, hU.1, c_splitWords hU hl ht (fun h1 ws1 we1 hU1 hw1 hO1 => ?_)⟩)
  have hweq : wEq (ws1, we1, (wds tx len).2.2) (wds tx len) := ⟨rfl, fun k hk => hw1 k hk⟩
  obtain ⟨ok1, ok2⟩ := wds_ok (tx := tx) (len := len)
  have hwok : wOK tx len (ws1, we1, (wds tx len).2.2) := by
    intro k hk
    obtain ⟨e1, e2⟩ := hw1 k hk
    show ws1 k < we1 k ∧ we1 k ≤ len ∧ (isD (tx (ws1 k)) = true → ∀ i, ws1 k ≤ i → i < we1 k → isD (tx i) = true)
    rw [e1, e2]
    exact ok1 k hk
  have eA : ∀ D, rdRs n tx (ws1, we1, (wds tx len).2.2) 20 0 D = rdRs n tx (wds tx len) 20 0 D := rdRs_congr hweq 20 0
  obtain ⟨k0, k1, k2, k3, k4, k5, k6⟩ := id hU1
  have hU2 := hU1.setO (len' := 0) (w' := (wds tx len).2.2) (nxt' := 0)
  refine ⟨rfl, _, _, _, _, _, _, _, _, _, hU1.1, _, _, _, _, _, _, k6.1, c_rlClear (hU2.2.2.2.2.2.2) (fun h3 hR3 hO3 => ?_)⟩
  have hU3 : RuAt h3 q n tx 0 ws1 we1 (wds tx len).2.2 0 hd dr R (rl0D D) := by
    obtain ⟨m0, m1, m2, m3, m4, m5, m6⟩ := id hU2
    exact ⟨(hO3 _ (by omega)).trans m0, (hO3 _ (by omega)).trans m1, (hO3 _ (by omega)).trans m2, (hO3 _ (by omega)).trans m3, m4, m5.ofq (fun a x y => hO3 a (by omega)), hR3⟩
  have hOa : Off q 16 h h3 := (hO1.up (by omega) (by omega)).tr (hO3.mono (by omega) (by omega))
  refine ⟨rfl, _, _, _, _, _, _, _, _, _, hU3.1, c_readRules hn hU3 hl ht hwok (by show (wds tx len).2.2 ≤ 120; omega) rfl rfl (fun h4 hU4 hok4 hO4 => ?_)⟩
  rw [eA] at hU4 hok4 ⊢
  refine ⟨_, rfl, by split <;> decide, tst' (fun z => ?_) (fun z => ?_)⟩
  · exact ⟨_, _, _, _, _, _, _, _, _, hU4.1, hp0 z h4 _ _ _ _ hU4 (hOa.tr hO4)⟩
  · obtain ⟨m0, m1, m2, m3, m4, m5, m6⟩ := id hU4
    refine ⟨_, _, _, _, _, _, _, _, _, hU4.1, _, _, _, _, _, _, m6.1, c_rlSize (m6.ofq (fun a x y => xup_n (by omega))) ⟨_, rfl, hp1 z (hok4 z) _ ws1 we1 _ _ ⟨xup_s _ _ _, (xup_n (by omega)).trans m1, (xup_n (by omega)).trans m2, (xup_n (by omega)).trans m3, by omega, m6.ofq (fun a x y => xup_n (by omega)), m5.ofq (fun a x y => xup_n (by omega))⟩ ((hOa.tr hO4).up (by omega) (by omega))⟩⟩
end RU7
