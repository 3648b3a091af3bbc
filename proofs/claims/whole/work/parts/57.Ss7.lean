/-! StateShares: two persons compared; signs collected; made -/
abbrev agM (mk : Nat → Option Nat) (a b : Nat) : Nat := cnt (both mk a b) 120
abbrev agS (mk : Nat → Option Nat) (a b s : Nat) : Nat := cnt (fun q => saw mk a s q && saw mk b s q) 120
abbrev agO (mk : Nat → Option Nat) (a b s : Nat) : Nat := cnt (fun q => both mk a b q && saw mk a s q) 120
theorem cnt_part {f : Nat → Bool} {k : Nat → Nat → Bool} {n : Nat} (h : ∀ q s t, k s q = true → k t q = true → s = t) : ∀ q, sm (fun s => cnt (fun q => f q && k s q) q) n ≤ cnt f q
  | 0 => by
    have : ∀ m, sm (fun s => cnt (fun q => f q && k s q) 0) m = 0 := by
      intro m
      induction m with
      | zero => rfl
      | succ m ih => show sm _ m + 0 = 0; rw [ih]
    rw [this]; exact Nat.zero_le _
  | q + 1 => by
    have ih := cnt_part (f := f) (k := k) (n := n) h q
    have e1 : sm (fun s => cnt (fun q => f q && k s q) (q + 1)) n = sm (fun s => cnt (fun q => f q && k s q) q) n + sm (fun s => if (f q && k s q) = true then 1 else 0) n := by
      rw [← sm_add]
      exact sm_congr fun s _ => cnt_s
    have e2 : sm (fun s => if (f q && k s q) = true then 1 else 0) n ≤ if f q = true then 1 else 0 := by
      by_cases z : ∃ s, s < n ∧ (f q && k s q) = true
      · obtain ⟨s, hs, hk⟩ := z
        have hf : f q = true := by
          rcases hb : f q with _ | _
          · rw [hb] at hk; cases hk
          · rfl
        have hks : k s q = true := by rw [hf] at hk; exact hk
        rw [if_pos hf]
        have : sm (fun s => if (f q && k s q) = true then 1 else 0) n ≤ sm (fun t => if t = s then 1 else 0) n := by
          refine sm_le_sm fun t _ => ?_
          by_cases y : (f q && k t q) = true
          · have hkt : k t q = true := by rw [hf] at y; exact y
            rw [if_pos y, if_pos (h q t s hkt hks)]
            exact Nat.le_refl _
          · rw [if_neg y]; exact Nat.zero_le _
        rw [sm_one] at this
        refine Nat.le_trans this ?_
        split <;> omega
      · have : sm (fun s => if (f q && k s q) = true then 1 else 0) n ≤ sm (fun t => 0 * 0) n := by
          refine sm_le_sm fun t ht => ?_
          rw [if_neg (fun y => z ⟨t, ht, y⟩)]
          exact Nat.zero_le _
        rw [sm_mul, Nat.mul_zero] at this
        omega
    rw [e1, cnt_s]
    omega
theorem saw_one {mk : Nat → Option Nat} {a : Nat} : ∀ q s t, saw mk a s q = true → saw mk a t q = true → s = t := by
  intro q s t h1 h2
  have e1 : mk (q * 4 + a) = some s := by simpa using h1
  have e2 : mk (q * 4 + a) = some t := by simpa using h2
  rw [e1] at e2
  exact Option.some.inj e2
theorem both_comm {mk : Nat → Option Nat} {a b : Nat} : both mk a b = both mk b a := by
  funext q
  exact Bool.and_comm _ _
theorem agO_sum {mk : Nat → Option Nat} {a b n : Nat} : sm (fun s => agO mk a b s) n ≤ agM mk a b := cnt_part saw_one 120
theorem agS_sum {mk : Nat → Option Nat} {a b n : Nat} : sm (fun s => agS mk a b s) n ≤ 120 := by
  have h1 : sm (fun s => agS mk a b s) n ≤ cnt (fun _ => true) 120 := by
    have := cnt_part (f := fun _ => true) (k := fun s q => saw mk a s q && saw mk b s q) (n := n) (fun q s t h1 h2 => saw_one q s t (Bool.and_eq_true _ _ ▸ h1).1 (Bool.and_eq_true _ _ ▸ h2).1) 120
    exact this
  exact Nat.le_trans h1 (cnt_le 120)
theorem sm_prod {u v : Nat → Nat} : ∀ {n : Nat}, sm (fun s => u s * v s) n ≤ sm u n * sm v n
  | 0 => Nat.zero_le _
  | n + 1 => by
    show sm (fun s => u s * v s) n + u n * v n ≤ (sm u n + u n) * (sm v n + v n)
    have ih := sm_prod (u := u) (v := v) (n := n)
    have e : (sm u n + u n) * (sm v n + v n) = sm u n * sm v n + u n * v n + (sm u n * v n + u n * sm v n) := by grind
    rw [e]; omega
abbrev agE (mk : Nat → Option Nat) (a b n : Nat) : Nat := sm (fun s => agO mk a b s * agO mk b a s) n
theorem agE_le {mk : Nat → Option Nat} {a b n : Nat} : agE mk a b n ≤ agM mk a b * agM mk a b := by
  have h1 := agO_sum (mk := mk) (a := a) (b := b) (n := n)
  have h2 := agO_sum (mk := mk) (a := b) (b := a) (n := n)
  rw [show agM mk b a = agM mk a b by unfold agM; rw [both_comm]] at h2
  exact Nat.le_trans sm_prod (Nat.mul_le_mul h1 h2)
/-- the answer of agree: above u - v, below d -/
def agR (u v d : Nat) (x : Int32) : Int64 := if x = 0 then (lN u - lN v) / lN (Nat.gcd (dst u v) d) else lN (smp (dst u v) d x)
theorem i_diff {u v : Nat} (hu : u ≤ 20000) (hv : v ≤ 20000) : (nI u - nI v).toInt64 = lN u - lN v ∧ (lN u - lN v).toInt = (u : Int) - v := by
  have e1 : (nI u - nI v).toInt = (u : Int) - v := pk_sub_toInt (by omega) (by omega)
  have e2 : (lN u - lN v).toInt = (u : Int) - v := by
    rw [Int64.toInt_sub, pk_lT (by omega), pk_lT (by omega)]
    exact Int.bmod_eq_of_le (by omega) (by omega)
  exact ⟨Int64.toInt_inj.mp (by rw [Int32.toInt_toInt64, e1, e2]), e2⟩
theorem i_absd {u v : Nat} (hu : u ≤ 20000) (hv : v ≤ 20000) : (if 0 < lN u - lN v then lN u - lN v else -(lN u - lN v)) = lN (dst u v) := by
  have e2 := (i_diff hu hv).2
  have hd : dst u v ≤ 20000 := by unfold dst; split <;> omega
  have e3 : (lN (dst u v)).toInt = (dst u v : Int) := pk_lT (by omega)
  have e0 : (0 < lN u - lN v) ↔ v < u := by
    rw [Int64.lt_iff_toInt_lt, e2, show ((0 : Int64)).toInt = 0 from rfl]
    omega
  by_cases q : v < u
  · rw [if_pos (e0.mpr q)]
    refine Int64.toInt_inj.mp ?_
    rw [e2, e3]; unfold dst; rw [if_neg (by omega)]; omega
  · rw [if_neg (fun z => q (e0.mp z))]
    refine Int64.toInt_inj.mp ?_
    rw [Int64.toInt_neg, e2, e3, Int.bmod_eq_of_le (by omega) (by omega)]
    unfold dst
    split <;> omega
section SS7
variable {g : xG} {post : xPost} {h : xHp} {nx : Nat}
theorem c_agree {S n len lm ft : Nat} {mk : Nat → Option Nat} {kd tx A Bs : Nat → Nat} {R : Rl} {wk ev : Tr} {w : Nat → Int} {a b c : Int32} (hI : ssI n mk kd tx len R lm ft A Bs wk ev w) (hX : Ss h S n mk kd tx len R lm ft A Bs wk ev w) (hp1 : ∀ s t j, s < 4 → t < 4 → ¬ s = t → j < 2 → a = nI s → b = nI t → c = nI j → post (some (.long (if agM mk s t * agM mk s t - agE mk s t n = 0 then lN 0 else agR (agM mk s t * sm (fun k => agS mk s t k) n) (agE mk s t n) (agM mk s t * agM mk s t - agE mk s t n) (nI j)))) h nx) (hp0 : (∀ s t j, s < 4 → t < 4 → ¬ s = t → j < 2 → a = nI s → b = nI t → ¬ c = nI j) → post (some (.long (-1))) h nx) : Ct g M_X9_agree [.ref S, .int a, .int b, .int c] h nx post := by
  obtain ⟨old, gr, C, T, G, P, B, kn, hG, hX⟩ := hX
  obtain ⟨ws, we, nw, nxt, hd, dr, D, so, ch, cu, wy, wg, p, W, e, ku, kl, vu, vl, ⟨x1, x2, x3, x4, x5, x6, x7⟩, ⟨y1, y2, y3, y4, y5, y6⟩⟩ := id hX
  obtain ⟨i1, i2, i3, i4, i5, i6, i7, i8, i9, i10, i11⟩ := id hI
  have mk6 : ∀ i s, i < 480 → mk i = some s → s < 6 := fun i s hi hs => by have := i2 i s hi hs; omega
  refine Ct.of (by decide +kernel) (Nat.le_of_ble_eq_true rfl) (v_X9_agree_0 (c_isPerson (fun s hs ha => ⟨1, rfl, by decide, fun q => absurd q (by decide), fun _ => c_isPerson (fun t ht hb => ⟨1, rfl, by decide, fun q => absurd q (by decide), fun _ => ⟨fun q => hp0 (fun s t j h1 h2 h3 h4 e1 e2 _ => h3 ((nI_eq (by omega) (by omega)).mp (e1.symm.trans (q.trans e2)))), fun q => ?_⟩⟩) (fun hb => ⟨0, rfl, by decide, fun _ => hp0 (fun s t j _ h2 _ _ _ e2 _ => hb t h2 e2), fun q => absurd rfl q⟩)⟩) (fun ha => ⟨0, rfl, by decide, fun _ => hp0 (fun s t j h1 _ _ _ e1 _ _ => ha s h1 e1), fun q => absurd rfl q⟩)))
  have e2 : ∀ x : Int32, ¬ x < 0 → (x ≤ nI 1 ↔ ¬ nI 2 ≤ x) := by
    intro x hx
    obtain ⟨j, hj, rfl⟩ := nI_of hx
    rw [nI_leI hj (by decide), nI_leI (by decide) hj]
    omega
  obtain ⟨r1, r2⟩ := rng (x := c) (N := 2) (A := post (some (.long (-1))) h nx) (B := ∃ k, k < 2 ∧ c = nI k) (by decide) (fun k hk hb => ⟨k, hk, hb⟩) (fun hc => hp0 (fun s t j _ _ _ h4 _ _ e3 => hc j h4 e3))
  refine ⟨r1, fun q2 => ⟨fun q3 => ?_, fun q3 => (r2 q2).1 (Decidable.byContradiction fun z => q3 ((e2 c q2).mpr z))⟩⟩
  obtain ⟨j, hj, hc⟩ := (r2 q2).2 ((e2 c q2).mp q3)
  subst ha; subst hb; subst hc
  have hst : ¬ s = t := fun z => q (by rw [z])
  have hpp := hp1 s t j hs ht hst hj rfl rfl rfl
  have bM : agM mk s t ≤ 120 := cnt_le 120
  have bS := agS_sum (mk := mk) (a := s) (b := t) (n := n)
  have bE := agE_le (mk := mk) (a := s) (b := t) (n := n)
  have bMM : agM mk s t * agM mk s t ≤ 120 * 120 := Nat.mul_le_mul bM bM
  have bMS : agM mk s t * sm (fun k => agS mk s t k) n ≤ 120 * 120 := Nat.mul_le_mul bM bS
  have main : ∀ d i, n - i = d → i ≤ n → Blk g M_X9_agree post 52 [(0, .ref S), (1, .int (nI s)), (2, .int (nI t)), (3, .int (nI j)), (4, .int (nI (agM mk s t))), (5, .int (nI (sm (fun k => agS mk s t k) i))), (6, .int (nI (agE mk s t i))), (7, .int (nI i))] [] h nx 0 0 := by
    intro d
    induction d with
    | zero =>
      intro i hd' hi
      have : i = n := by omega
      subst this
      refine v_X9_agree_52 ⟨_, _, _, _, _, _, _, _, x1, ⟨by omega, by omega⟩, fun _ => ⟨bE, by omega, fun q4 => ⟨by omega, ?_⟩, fun q4 => ?_⟩, fun q4 => absurd q4 (by omega)⟩
      · rw [if_neg (by omega)] at hpp
        rw [(i_diff (by omega) (by omega)).1]
        have bD : dst (agM mk s t * sm (fun k => agS mk s t k) i) (agE mk s t i) ≤ 20000 := by unfold dst; split <;> omega
        refine c_smallG (i_absd (by omega) (by omega)) (by omega) ⟨q4, by omega⟩ (fun z => ⟨_, rfl, ?_⟩) (fun z => ⟨_, rfl, ?_⟩)
        · unfold agR at hpp; rw [if_pos z] at hpp; exact hpp
        · unfold agR at hpp; rw [if_neg z] at hpp; exact hpp
      · rw [if_pos q4] at hpp; exact hpp
    | succ d ih =>
      intro i hd' hi
      exact v_X9_agree_52 ⟨_, _, _, _, _, _, _, _, x1, ⟨by omega, by omega⟩, fun q4 => absurd q4 (by omega), fun _ => ⟨_, _, _, _, x3.1, c_sameByBoth x3 hs ht (by omega) mk6 ⟨_, rfl, _, _, _, _, _, _, _, _, x1, _, _, _, _, x3.1, c_seenAmong x3 hs ht (by omega) mk6 ⟨_, rfl, _, _, _, _, _, _, _, _, x1, _, _, _, _, x3.1, c_seenAmong x3 ht hs (by omega) mk6 ⟨_, rfl, ih (i + 1) (by omega) (by omega)⟩⟩⟩⟩⟩
  exact ⟨_, _, _, _, _, _, _, _, x1, _, _, _, _, x3.1, c_seenByBoth x3 hs ht mk6 ⟨_, rfl, main n 0 rfl (Nat.zero_le _)⟩⟩
end SS7
