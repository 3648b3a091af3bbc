/-! Rules: rules of a text -/
theorem wIs_lt {tx : Nat → Nat} {s : Wd} {k j : Nat} (h : wIs tx s k j = true) : k < s.2.2 := by
  unfold wIs at h
  simp at h
  exact h.1.1
theorem isC_lt {tx : Nat → Nat} {s : Wd} {k : Nat} (h : isC tx s k = true) : k < s.2.2 := by
  unfold isC at h
  simp at h
  rcases h with (h | h) | h
  · exact wIs_lt h
  · exact wIs_lt h
  · exact wIs_lt h
theorem numA_w {tx : Nat → Nat} {s : Wd} {k v : Nat} (h : numA tx s k = some v) : k < s.2.2 := by
  unfold numA at h
  split at h
  · rename_i q; exact q.1
  · cases h
theorem numA_no {tx : Nat → Nat} {len k : Nat} {s : Wd} (hw : wOK tx len s) (h : oI (numA tx s k) = -1) : numA tx s k = none := (oI_m1 (fun v hv => by have := numA_lt hw hv; omega)).mp h
theorem amtA_lt {tx : Nat → Nat} {s : Wd} {k : Nat} (h : ¬ amtA tx s k = 0) : k < s.2.2 := by
  unfold amtA at h
  split at h
  · rename_i q; exact wIs_lt q
  · split at h
    · rename_i q; exact wIs_lt q
    · split at h
      · rename_i q; simp at q; exact wIs_lt q.1
      · split at h
        · rename_i q; simp at q; exact wIs_lt q.1
        · exact absurd rfl h
theorem amtA_le {tx : Nat → Nat} {s : Wd} {k : Nat} : amtA tx s k ≤ 4 := by
  unfold amtA
  repeat' split
  all_goals decide
section RU5
variable {g : xG} {post : xPost} {h : xHp} {nx : Nat}
theorem c_readRule {q n len len0 w nxt hd dr : Nat} {tx ws we : Nat → Nat} {R D : Rl} (hn : n ≤ 6) (hU : RuAt h q n tx len0 ws we w nxt hd dr R D) (hl : len ≤ 120) (ht : ∀ i, i < len → tx i < 65536) (hw : wOK tx len (ws, we, w)) (hwl : w ≤ 120) (hk : nxt ≤ w) (hD : D.2.2.2.2.2 < 20) (hp : ∀ h', RuAt h' q n tx len0 ws we w (rdR n tx (ws, we, w) nxt D).2.1 hd dr R (rdR n tx (ws, we, w) nxt D).2.2 → Off q 16 h h' → post (some (.int (nI (if (rdR n tx (ws, we, w) nxt D).1 = true then 1 else 0)))) h' nx) : Ct g M_X7_readRule [.ref q] h nx post := by
  have ha4 := amtA_le (tx := tx) (s := (ws, we, w)) (k := nxt)
  refine Ct.of (by decide +kernel) (Nat.le_of_ble_eq_true rfl) (v_X7_readRule_0 ⟨_, _, _, _, _, _, _, _, _, hU.1, c_amountAt hU hl ht hw hwl (by omega) ⟨_, rfl, by omega, fun z0 => ⟨_, _, _, _, _, _, _, _, _, hU.1, ⟨by omega, by decide⟩, fun z4 => ?_, fun z4 => ?_⟩, fun z0 => ⟨_, _, _, _, _, _, _, _, _, hU.1, ?_⟩⟩⟩)
  · have hB : rdR n tx (ws, we, w) nxt D = rdB n tx (ws, we, w) (nxt + 1) D (amtA tx (ws, we, w) nxt) 0 := by unfold rdR; rw [if_neg z0, if_neg z4]
    have hkw0 : nxt < w := amtA_lt z0
    have hU1 := hU.setO (len' := len0) (w' := w) (nxt' := nxt + 1)
    generalize amtA tx (ws, we, w) nxt = a at *
    refine c_isComparison hU1 hl ht hw hwl (by omega) ⟨_, rfl, by split <;> decide, tst' (fun z => ?_) (fun z => ?_)⟩
    · have e : rdR n tx (ws, we, w) nxt D = (false, nxt + 1, D) := by rw [hB]; unfold rdB; rw [if_neg (by rw [z]; decide)]
      rw [e] at hp
      exact hp _ hU1 (Off.rf.up (by omega) (by omega))
    · have hkw := isC_lt z
      have hkw : nxt + 1 < w := hkw
      obtain ⟨a1, a2, a3⟩ := hw (nxt + 1) hkw
      have a1 : ws (nxt + 1) < we (nxt + 1) := a1
      have a2 : we (nxt + 1) ≤ len := a2
      have hU2 := hU1.setO (len' := len0) (w' := w) (nxt' := nxt + 1 + 1)
      refine ⟨_, _, _, _, _, _, _, _, _, hU1.1, _, _, hU1.2.2.1, by omega, by decide, _, _, hU1.2.1, by omega, by decide, c_numberAt hU2 hl ht hw hwl (by omega) ⟨_, rfl, fun y => ?_, fun y => ?_⟩⟩
      · obtain ⟨b, hb⟩ := oI_nm1 y
        have hb3 := numA_lt hw hb
        have hkw2 : nxt + 1 + 1 < w := numA_w hb
        rw [hb]
        have hU3 := hU2.setO (len' := len0) (w' := w) (nxt' := nxt + 1 + 1 + 1)
        refine ⟨_, _, _, _, _, _, _, _, _, hU2.1, c_wordIs hU3 hl ht hw hwl (by omega) (by decide) ⟨_, rfl, by split <;> decide, tst' (fun z2 => ?_) (fun z2 => ?_)⟩⟩
        · have e : rdR n tx (ws, we, w) nxt D = (false, nxt + 1 + 2, D) := by rw [hB]; unfold rdB; rw [if_pos z, hb]; show (if wIs tx (ws, we, w) (nxt + 1 + 2) 8 = true then _ else _) = _; rw [if_neg (by rw [z2]; decide)]
          rw [e] at hp
          exact hp _ hU3 (((Off.rf.up (by omega) (by omega)).up (by omega) (by omega)).up (by omega) (by omega))
        · have e : rdR n tx (ws, we, w) nxt D = rdV n tx (ws, we, w) (nxt + 1 + 3) D a 0 (tx (ws (nxt + 1))) b := by rw [hB]; unfold rdB; rw [if_pos z, hb]; show (if wIs tx (ws, we, w) (nxt + 1 + 2) 8 = true then _ else _) = _; rw [if_pos z2]
          rw [e] at hp
          have hU4 := hU3.setO (len' := len0) (w' := w) (nxt' := nxt + 1 + 1 + 1 + 1)
          have hkw3 : nxt + 1 + 2 < w := wIs_lt z2
          exact ⟨_, _, _, _, _, _, _, _, _, hU3.1, c_readValue hn hU4 hl ht hw hwl (by omega) (ht _ (by omega)) hD (fun h5 hU5 hO5 => ⟨_, rfl, by split <;> decide, hp h5 hU5 (((((Off.rf.up (by omega) (by omega)).up (by omega) (by omega)).up (by omega) (by omega)).up (by omega) (by omega)).tr hO5)⟩)⟩
      · have hv := numA_no hw y
        have e : rdR n tx (ws, we, w) nxt D = (false, nxt + 1 + 1, D) := by rw [hB]; unfold rdB; rw [if_pos z, hv]
        rw [e] at hp
        exact hp _ hU2 ((Off.rf.up (by omega) (by omega)).up (by omega) (by omega))
  · have hkw0 : nxt < w := amtA_lt z0
    have hU0 := hU.setO (len' := len0) (w' := w) (nxt' := nxt + 1)
    refine c_numberAt hU0 hl ht hw hwl (by omega) ⟨_, rfl, fun y0 => ?_, fun y0 => ?_⟩
    · obtain ⟨c, hc⟩ := oI_nm1 y0
      have hc3 := numA_lt hw hc
      have hkwc : nxt + 1 < w := numA_w hc
      rw [hc]
      have hB : rdR n tx (ws, we, w) nxt D = rdB n tx (ws, we, w) (nxt + 1 + 1) D (amtA tx (ws, we, w) nxt) c := by unfold rdR; rw [if_neg z0, if_pos z4, hc, z4]
      have hU1 := hU0.setO (len' := len0) (w' := w) (nxt' := nxt + 1 + 1)
      generalize amtA tx (ws, we, w) nxt = a at *
      refine ⟨_, _, _, _, _, _, _, _, _, hU0.1, ?_⟩
      refine c_isComparison hU1 hl ht hw hwl (by omega) ⟨_, rfl, by split <;> decide, tst' (fun z => ?_) (fun z => ?_)⟩
      · have e : rdR n tx (ws, we, w) nxt D = (false, nxt + 1 + 1, D) := by rw [hB]; unfold rdB; rw [if_neg (by rw [z]; decide)]
        rw [e] at hp
        exact hp _ hU1 ((Off.rf.up (by omega) (by omega)).up (by omega) (by omega))
      · have hkw := isC_lt z
        have hkw : nxt + 1 + 1 < w := hkw
        obtain ⟨a1, a2, a3⟩ := hw (nxt + 1 + 1) hkw
        have a1 : ws (nxt + 1 + 1) < we (nxt + 1 + 1) := a1
        have a2 : we (nxt + 1 + 1) ≤ len := a2
        have hU2 := hU1.setO (len' := len0) (w' := w) (nxt' := nxt + 1 + 1 + 1)
        refine ⟨_, _, _, _, _, _, _, _, _, hU1.1, _, _, hU1.2.2.1, by omega, by decide, _, _, hU1.2.1, by omega, by decide, c_numberAt hU2 hl ht hw hwl (by omega) ⟨_, rfl, fun y => ?_, fun y => ?_⟩⟩
        · obtain ⟨b, hb⟩ := oI_nm1 y
          have hb3 := numA_lt hw hb
          have hkw2 : nxt + 1 + 1 + 1 < w := numA_w hb
          rw [hb]
          have hU3 := hU2.setO (len' := len0) (w' := w) (nxt' := nxt + 1 + 1 + 1 + 1)
          refine ⟨_, _, _, _, _, _, _, _, _, hU2.1, c_wordIs hU3 hl ht hw hwl (by omega) (by decide) ⟨_, rfl, by split <;> decide, tst' (fun z2 => ?_) (fun z2 => ?_)⟩⟩
          · have e : rdR n tx (ws, we, w) nxt D = (false, nxt + 1 + 1 + 2, D) := by rw [hB]; unfold rdB; rw [if_pos z, hb]; show (if wIs tx (ws, we, w) (nxt + 1 + 1 + 2) 8 = true then _ else _) = _; rw [if_neg (by rw [z2]; decide)]
            rw [e] at hp
            exact hp _ hU3 ((((Off.rf.up (by omega) (by omega)).up (by omega) (by omega)).up (by omega) (by omega)).up (by omega) (by omega))
          · have e : rdR n tx (ws, we, w) nxt D = rdV n tx (ws, we, w) (nxt + 1 + 1 + 3) D a c (tx (ws (nxt + 1 + 1))) b := by rw [hB]; unfold rdB; rw [if_pos z, hb]; show (if wIs tx (ws, we, w) (nxt + 1 + 1 + 2) 8 = true then _ else _) = _; rw [if_pos z2]
            rw [e] at hp
            have hU4 := hU3.setO (len' := len0) (w' := w) (nxt' := nxt + 1 + 1 + 1 + 1 + 1)
            have hkw3 : nxt + 1 + 1 + 2 < w := wIs_lt z2
            exact ⟨_, _, _, _, _, _, _, _, _, hU3.1, c_readValue hn hU4 hl ht hw hwl (by omega) (ht _ (by omega)) hD (fun h5 hU5 hO5 => ⟨_, rfl, by split <;> decide, hp h5 hU5 ((((((Off.rf.up (by omega) (by omega)).up (by omega) (by omega)).up (by omega) (by omega)).up (by omega) (by omega)).up (by omega) (by omega)).tr hO5)⟩)⟩
        · have hv := numA_no hw y
          have e : rdR n tx (ws, we, w) nxt D = (false, nxt + 1 + 1 + 1, D) := by rw [hB]; unfold rdB; rw [if_pos z, hv]
          rw [e] at hp
          exact hp _ hU2 (((Off.rf.up (by omega) (by omega)).up (by omega) (by omega)).up (by omega) (by omega))
    · have hv := numA_no hw y0
      have e : rdR n tx (ws, we, w) nxt D = (false, nxt + 1, D) := by unfold rdR; rw [if_neg z0, if_pos z4, hv]
      rw [e] at hp
      exact hp _ hU0 (Off.rf.up (by omega) (by omega))
  · have e : rdR n tx (ws, we, w) nxt D = rdV n tx (ws, we, w) nxt D 0 0 61 0 := by unfold rdR; rw [if_pos z0]
    rw [e] at hp
    exact c_readValue hn hU hl ht hw hwl (by omega) (by decide) hD (fun h5 hU5 hO5 => ⟨_, rfl, by split <;> decide, hp h5 hU5 hO5⟩)
end RU5
