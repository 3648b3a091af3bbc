/-! Rules: reading a rule -/
theorem tst {b : Bool} {X Y : Prop} (h0 : b = false → X) (h1 : b = true → Y) : ((if b = true then 1 else 0 : Nat) = 0 → X) ∧ (¬ (if b = true then 1 else 0 : Nat) = 0 → Y) := by
  rcases b with _ | _
  · exact ⟨fun _ => h0 rfl, fun z => absurd rfl z⟩
  · exact ⟨fun z => absurd z (by decide), fun _ => h1 rfl⟩
theorem tst' {b : Bool} {X Y : Prop} (h0 : b = false → X) (h1 : b = true → Y) : (¬ (if b = true then 1 else 0 : Nat) = 0 → Y) ∧ ((if b = true then 1 else 0 : Nat) = 0 → X) := ⟨(tst h0 h1).2, (tst h0 h1).1⟩
section RU4
variable {g : xG} {post : xPost} {h : xHp} {nx : Nat}
theorem c_amountAt {q n len len0 w nxt hd dr : Nat} {tx ws we : Nat → Nat} {R D : Rl} {k : Nat} (hU : RuAt h q n tx len0 ws we w nxt hd dr R D) (hl : len ≤ 120) (ht : ∀ i, i < len → tx i < 65536) (hw : wOK tx len (ws, we, w)) (hwl : w ≤ 120) (hk : k < 1000) (hp : post (some (.int (nI (amtA tx (ws, we, w) k)))) h nx) : Ct g M_X7_amountAt [.ref q, .int (nI k)] h nx post := by
  have hk0 := hk
  replace hk : k < 2 ^ 31 := by omega
  have R : ∀ v, amtA tx (ws, we, w) k = v → post (some (.int (nI v))) h nx := fun v e => by rw [e] at hp; exact hp
  refine Ct.of (by decide +kernel) (Nat.le_of_ble_eq_true rfl) (v_X7_amountAt_0 ⟨_, _, _, _, _, _, _, _, _, hU.1, c_wordIs hU hl ht hw hwl hk (by decide) ⟨_, rfl, by split <;> decide,  tst (fun n1 => ⟨_, _, _, _, _, _, _, _, _, hU.1, c_wordIs hU hl ht hw hwl hk (by decide) ⟨_, rfl, by split <;> decide,  tst (fun n2 => ⟨_, _, _, _, _, _, _, _, _, hU.1, c_wordIs hU hl ht hw hwl hk (by decide) ⟨_, rfl, by split <;> decide,  tst (fun n3 => ⟨_, _, _, _, _, _, _, _, _, hU.1, c_wordIs hU hl ht hw hwl hk (by decide) ⟨_, rfl, by split <;> decide,  tst (fun n4 => R 0 ?_) (fun n4 => ⟨_, _, _, _, _, _, _, _, _, hU.1, c_isComparison hU hl ht hw hwl (by omega) ⟨_, rfl, by split <;> decide,  tst (fun n5 => R 0 ?_) (fun n5 => R 3 ?_)⟩⟩)⟩⟩) (fun n3 => ⟨_, _, _, _, _, _, _, _, _, hU.1, c_isComparison hU hl ht hw hwl (by omega) ⟨_, rfl, by split <;> decide,  tst (fun n4 => ⟨_, _, _, _, _, _, _, _, _, hU.1, c_wordIs hU hl ht hw hwl hk (by decide) ⟨_, rfl, by split <;> decide,  tst (fun n5 => R 0 ?_) (fun n5 => ⟨_, _, _, _, _, _, _, _, _, hU.1, c_isComparison hU hl ht hw hwl (by omega) ⟨_, rfl, by split <;> decide,  tst (fun n6 => R 0 ?_) (fun n6 => R 3 ?_)⟩⟩)⟩⟩) (fun n4 => R 2 ?_)⟩⟩)⟩⟩) (fun n2 => R 4 ?_)⟩⟩) (fun n1 => R 1 ?_)⟩⟩)
  all_goals first | (unfold amtA; simp [*]; done) | (rw [n4] at n6; cases n6)
theorem c_readValue {q n len len0 w nxt hd dr : Nat} {tx ws we : Nat → Nat} {R D : Rl} {a c cm b : Nat} (hn : n ≤ 6) (hU : RuAt h q n tx len0 ws we w nxt hd dr R D) (hl : len ≤ 120) (ht : ∀ i, i < len → tx i < 65536) (hw : wOK tx len (ws, we, w)) (hwl : w ≤ 120) (hk : nxt < 1000) (hcm : cm < 65536) (hD : D.2.2.2.2.2 < 20) (hp : ∀ h', RuAt h' q n tx len0 ws we w (rdV n tx (ws, we, w) nxt D a c cm b).2.1 hd dr R (rdV n tx (ws, we, w) nxt D a c cm b).2.2 → Off q 16 h h' → post (some (.int (nI (if (rdV n tx (ws, we, w) nxt D a c cm b).1 = true then 1 else 0)))) h' nx) : Ct g M_X7_readValue [.ref q, .int (nI a), .int (nI c), .int (nI cm), .int (nI b)] h nx post := by
  unfold rdV at hp
  refine Ct.of (by decide +kernel) (Nat.le_of_ble_eq_true rfl) (v_X7_readValue_0 ⟨_, _, _, _, _, _, _, _, _, hU.1, c_valueAt hn hU hl ht hw hwl (by omega) ⟨_, rfl, fun z => ?_, fun z => ?_⟩⟩)
  · obtain ⟨v, hv⟩ := oI_nm1 z
    rw [hv] at hp ⊢
    have hp : ∀ h', RuAt h' q n tx len0 ws we w (nxt + 1) hd dr R (rlAdd D a c cm b v) → Off q 16 h h' → post (some (.int (nI 1))) h' nx := hp
    obtain ⟨k0, k1, k2, k3, k4, k5, k6⟩ := id hU
    refine ⟨_, _, _, _, _, _, _, _, _, hU.1, _, _, _, _, _, _, k6.1, c_rlAdd (k6.ofq (fun a x y => xup_n (by omega))) hD hcm (fun h1 hR1 hO1 => ⟨rfl, hp h1 ?_ ((Off.rf.up (by omega) (by omega)).tr (hO1.mono (by omega) (by omega)))⟩)⟩
    have o1 : ∀ a, (a < dr ∨ dr + 6 ≤ a) → ¬ a = q → h1 a = h a := fun a x y => (hO1 a x).trans (xup_n y)
    exact ⟨(hO1 q (by omega)).trans (xup_s _ _ _), (o1 _ (by omega) (by omega)).trans k1, (o1 _ (by omega) (by omega)).trans k2, (o1 _ (by omega) (by omega)).trans k3, k4, k5.ofq (fun a x y => o1 a (by omega) (by omega)), hR1⟩
  · have hv : valA n tx (ws, we, w) nxt = none := by
      match hx : valA n tx (ws, we, w) nxt with
      | none => rfl
      | some v =>
        rw [hx] at z
        have hlt : v < 2 ^ 31 := by
          unfold valA at hx
          split at hx
          · have := Option.some.inj hx; omega
          · split at hx
            · have := Option.some.inj hx; omega
            · split at hx
              · have := Option.some.inj hx; omega
              · split at hx
                · cases hx
                · split at hx
                  · have := Option.some.inj hx; omega
                  · cases hx
        exact absurd z (nI_ne_m1 hlt)
    rw [hv] at hp
    exact hp h hU Off.rf
end RU4
