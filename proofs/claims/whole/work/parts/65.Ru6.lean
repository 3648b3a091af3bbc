/-! Rules: all rules of a text -/
theorem valA_ok {n : Nat} {tx : Nat → Nat} {s : Wd} {k v : Nat} (h : valA n tx s k = some v) : k < s.2.2 ∧ (v < n ∨ v = 1000 ∨ v = 1001 ∨ v = 1002) := by
  unfold valA at h
  split at h
  · rename_i q; exact ⟨wIs_lt q, by have := Option.some.inj h; omega⟩
  · split at h
    · rename_i q; exact ⟨wIs_lt q, by have := Option.some.inj h; omega⟩
    · split at h
      · rename_i q; exact ⟨wIs_lt q, by have := Option.some.inj h; omega⟩
      · split at h
        · cases h
        · rename_i hv
          split at h
          · rename_i hlt
            exact ⟨numA_w hv, by have := Option.some.inj h; omega⟩
          · cases h
theorem rlAdd_ok {n a c cm b v : Nat} {D : Rl} (h : rlOK n D) (hs : D.2.2.2.2.2 < 20) (ha : a ≤ 4) (hc : c < 1000) (hcm : cm < 65536) (hb : b < 1000) (hv : v < n ∨ v = 1000 ∨ v = 1001 ∨ v = 1002) : rlOK n (rlAdd D a c cm b v) := by
  refine ⟨by show D.2.2.2.2.2 + 1 ≤ 20; omega, fun i hi => ?_⟩
  have hi : i < D.2.2.2.2.2 + 1 := hi
  show va_up D.1 _ a i ≤ 4 ∧ va_up D.2.1 _ c i < 1000 ∧ va_up D.2.2.1 _ cm i < 65536 ∧ va_up D.2.2.2.1 _ b i < 1000 ∧ (va_up D.2.2.2.2.1 _ v i < n ∨ va_up D.2.2.2.2.1 _ v i = 1000 ∨ va_up D.2.2.2.2.1 _ v i = 1001 ∨ va_up D.2.2.2.2.1 _ v i = 1002)
  by_cases z : i = D.2.2.2.2.2
  · subst z; rw [up_s, up_s, up_s, up_s, up_s]; exact ⟨ha, hc, hcm, hb, hv⟩
  · rw [up_n z, up_n z, up_n z, up_n z, up_n z]; exact h.2 i (by omega)
abbrev rdOK (n : Nat) (s : Wd) (D : Rl) (r : Rd) : Prop := r.1 = true → r.2.1 ≤ s.2.2 ∧ r.2.2.2.2.2.2.2 = D.2.2.2.2.2 + 1 ∧ rlOK n r.2.2
theorem rdV_ok {n : Nat} {tx : Nat → Nat} {s : Wd} {k a c cm b : Nat} {D : Rl} (h : rlOK n D) (hs : D.2.2.2.2.2 < 20) (ha : a ≤ 4) (hc : c < 1000) (hcm : cm < 65536) (hb : b < 1000) : rdOK n s D (rdV n tx s k D a c cm b) := by
  intro hr
  unfold rdV at hr ⊢
  match hv : valA n tx s k with
  | none => rw [hv] at hr; cases hr
  | some v =>
    obtain ⟨v1, v2⟩ := valA_ok hv
    exact ⟨by show k + 1 ≤ _; omega, rfl, rlAdd_ok h hs ha hc hcm hb v2⟩
theorem rdB_ok {n len : Nat} {tx : Nat → Nat} {s : Wd} {k a c : Nat} {D : Rl} (hw : wOK tx len s) (ht : ∀ i, i < len → tx i < 65536) (h : rlOK n D) (hs : D.2.2.2.2.2 < 20) (ha : a ≤ 4) (hc : c < 1000) : rdOK n s D (rdB n tx s k D a c) := by
  unfold rdB
  by_cases q : isC tx s k = true
  · rw [if_pos q]
    have hk := isC_lt q
    obtain ⟨a1, a2, a3⟩ := hw k hk
    match hv : numA tx s (k + 1) with
    | none => intro hr; cases hr
    | some b =>
      show rdOK n s D (if wIs tx s (k + 2) 8 = true then _ else _)
      by_cases z : wIs tx s (k + 2) 8 = true
      · rw [if_pos z]
        exact rdV_ok h hs ha hc (ht _ (by omega)) (numA_lt hw hv)
      · rw [if_neg z]; intro hr; cases hr
  · rw [if_neg q]; intro hr; cases hr
theorem rdR_ok {n len : Nat} {tx : Nat → Nat} {s : Wd} {k : Nat} {D : Rl} (hw : wOK tx len s) (ht : ∀ i, i < len → tx i < 65536) (h : rlOK n D) (hs : D.2.2.2.2.2 < 20) : rdOK n s D (rdR n tx s k D) := by
  unfold rdR
  have ha := amtA_le (tx := tx) (s := s) (k := k)
  by_cases q : amtA tx s k = 0
  · rw [if_pos q]; exact rdV_ok h hs (by decide) (by decide) (by decide) (by decide)
  · rw [if_neg q]
    by_cases z : amtA tx s k = 4
    · rw [if_pos z]
      match hv : numA tx s (k + 1) with
      | none => intro hr; cases hr
      | some c => exact rdB_ok hw ht h hs (by decide) (numA_lt hw hv)
    · rw [if_neg z]; exact rdB_ok hw ht h hs ha (by decide)
theorem rdRs_s {n : Nat} {tx : Nat → Nat} {s : Wd} {d k : Nat} {D : Rl} : rdRs n tx s (d + 1) k D = if (rdR n tx s k D).1 = true then (if (rdR n tx s k D).2.1 = s.2.2 then (true, (rdR n tx s k D).2) else if wIs tx s (rdR n tx s k D).2.1 9 = true then rdRs n tx s d ((rdR n tx s k D).2.1 + 1) (rdR n tx s k D).2.2 else (false, (rdR n tx s k D).2)) else (false, (rdR n tx s k D).2) := rfl
section RU6
variable {g : xG} {post : xPost} {h : xHp} {nx : Nat}
theorem c_readRules {q n len len0 w nxt hd dr : Nat} {tx ws we : Nat → Nat} {R D : Rl} (hn : n ≤ 6) (hU : RuAt h q n tx len0 ws we w nxt hd dr R D) (hl : len ≤ 120) (ht : ∀ i, i < len → tx i < 65536) (hw : wOK tx len (ws, we, w)) (hwl : w ≤ 120) (hn0 : nxt = 0) (hD0 : D.2.2.2.2.2 = 0) (hp : ∀ h', RuAt h' q n tx len0 ws we w (rdRs n tx (ws, we, w) 20 0 D).2.1 hd dr R (rdRs n tx (ws, we, w) 20 0 D).2.2 → ((rdRs n tx (ws, we, w) 20 0 D).1 = true → rlOK n (rdRs n tx (ws, we, w) 20 0 D).2.2) → Off q 16 h h' → post (some (.int (nI (if (rdRs n tx (ws, we, w) 20 0 D).1 = true then 1 else 0)))) h' nx) : Ct g M_X7_readRules [.ref q] h nx post := by
  have main : ∀ (d i k : Nat) (D' : Rl) (h' : xHp), 20 - i = d → i ≤ 20 → RuAt h' q n tx len0 ws we w k hd dr R D' → Off q 16 h h' → k ≤ w → D'.2.2.2.2.2 = i → rlOK n D' → rdRs n tx (ws, we, w) d k D' = rdRs n tx (ws, we, w) 20 0 D → Blk g M_X7_readRules post 2 [(0, .ref q), (1, .int (nI i))] [] h' nx 0 0 := by
    intro d
    induction d with
    | zero =>
      intro i k D' h' hd' hi hU' hO hkw hsz hok he
      have he : (false, k, D') = rdRs n tx (ws, we, w) 20 0 D := he
      rw [← he] at hp
      exact v_X7_readRules_2 ⟨⟨by omega, by decide⟩, fun _ => hp h' hU' (fun z => by cases z) hO, fun z => absurd z (by omega)⟩
    | succ d ih =>
      intro i k D' h' hd' hi hU' hO hkw hsz hok he
      rw [rdRs_s] at he
      have hrk := rdR_ok (k := k) hw ht hok (by omega)
      refine v_X7_readRules_2 ⟨⟨by omega, by decide⟩, fun z => absurd z (by omega), fun _ => ⟨_, _, _, _, _, _, _, _, _, hU'.1, c_readRule hn hU' hl ht hw hwl hkw (by omega) (fun h1 hU1 hO1 => ⟨_, rfl, by split <;> decide, tst' (fun z => ?_) (fun z => ?_)⟩)⟩⟩
      · rw [if_neg (by rw [z]; decide)] at he
        rw [← he] at hp
        exact hp h1 hU1 (fun y => by cases y) (hO.tr hO1)
      · rw [if_pos z] at he
        obtain ⟨r1, r2, r3⟩ := hrk z
        have r1 : (rdR n tx (ws, we, w) k D').2.1 ≤ w := r1
        refine ⟨_, _, _, _, _, _, _, _, _, hU1.1, ⟨by omega, by omega⟩, fun y => ?_, fun y => ?_⟩
        · have he : (if wIs tx (ws, we, w) (rdR n tx (ws, we, w) k D').2.1 9 = true then rdRs n tx (ws, we, w) d ((rdR n tx (ws, we, w) k D').2.1 + 1) (rdR n tx (ws, we, w) k D').2.2 else (false, (rdR n tx (ws, we, w) k D').2)) = rdRs n tx (ws, we, w) 20 0 D := by rw [if_neg y] at he; exact he
          refine c_wordIs hU1 hl ht hw hwl (by omega) (by decide) ⟨_, rfl, by split <;> decide, tst' (fun x => ?_) (fun x => ?_)⟩
          · rw [if_neg (by rw [x]; decide)] at he
            rw [← he] at hp
            exact hp h1 hU1 (fun y => by cases y) (hO.tr hO1)
          · rw [if_pos x] at he
            exact ⟨_, _, _, _, _, _, _, _, _, hU1.1, ih (i + 1) _ _ _ (by omega) (by omega) hU1.setO ((hO.tr hO1).up (by omega) (by omega)) (by omega) (by omega) r3 he⟩
        · have he : (true, (rdR n tx (ws, we, w) k D').2) = rdRs n tx (ws, we, w) 20 0 D := by rw [if_pos y] at he; exact he
          rw [← he] at hp
          exact hp h1 hU1 (fun _ => r3) (hO.tr hO1)
  subst hn0
  exact Ct.of (by decide +kernel) (Nat.le_of_ble_eq_true rfl) (v_X7_readRules_0 (main 20 0 0 D h rfl (by decide) hU Off.rf (Nat.zero_le _) hD0 ⟨by omega, fun i hi => absurd hi (by omega)⟩ rfl))
end RU6
