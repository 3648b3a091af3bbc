/-! the reference: rules read, grade -/
section M16
variable {g : xG} {Q : mQ} {s : MV} {x0 : Nat} {tx : Nat → Nat} {len : Nat} {W : Wd}
/-- the first fields of a rule that is being read -/
def paR (f : Nat → Int32) (d a c cm b : Nat) : Prop := f d = nI a ∧ a ≤ 4 ∧ c < 1000 ∧ b < 1000 ∧ (a = 4 → f (d + 1) = nI c) ∧ (a ≠ 0 → f (d + 2) = nI cm ∧ f (d + 3) = nI b ∧ (cm = 60 ∨ cm = 61 ∨ cm = 62))
theorem l_readRule {k0 : Nat} {D : Rl} (hn : s.n ≤ 6) (hW : wR s tx len W) (hwr : s.wr = 0) (hdn : s.dn < 20) (hD : D.2.2.2.2.2 = s.dn)
    (hT : (rdR s.n tx W k0 D).1 = true → ∀ f, enR s.n f (rdR s.n tx W k0 D).2.2 s.dn → (∀ i, i < 6 * s.dn → f i = s.dr i) → Q none (MV.u_dr (MV.u_dn (MV.u_at_ s ((rdR s.n tx W k0 D).2.1)) (s.dn + 1)) f))
    (hF : (rdR s.n tx W k0 D).1 = false → ∀ d f, Q none (MV.u_dr (MV.u_dn (MV.u_wr (MV.u_at_ s ((rdR s.n tx W k0 D).2.1)) 1) d) f)) :
    (∀ k f a c, k ≤ 130 → f (6 * s.dn) = nI a → a ≤ 4 → 0 < a → c < 1000 → (a = 4 → f (6 * s.dn + 1) = nI c) → (∀ i, i < 6 * s.dn → f i = s.dr i) → rdR s.n tx W k0 D = rdB s.n tx W k D a c → BlkM g M_X10_readRule x0 Q 79 [(0, .ref x0), (1, .int (nI (6 * s.dn)))] [] (MV.u_dr (MV.u_at_ s k) f)) ∧
    (∀ k f, k ≤ 130 → (rdR s.n tx W k0 D).1 = false → (rdR s.n tx W k0 D).2.1 = k → BlkM g M_X10_readRule x0 Q 79 [(0, .ref x0), (1, .int (nI (6 * s.dn)))] [] (MV.u_dr (MV.u_wr (MV.u_at_ s k) 1) f)) ∧
    (∀ k f, k ≤ 130 → f (6 * s.dn) = nI 0 → (∀ i, i < 6 * s.dn → f i = s.dr i) → rdR s.n tx W k0 D = rdV s.n tx W k D 0 0 61 0 → BlkM g M_X10_readRule x0 Q 181 [(0, .ref x0), (1, .int (nI (6 * s.dn)))] [] (MV.u_dr (MV.u_at_ s k) f)) := by
  have hWx : ∀ k w f, wR (MV.u_dr (MV.u_wr (MV.u_at_ s k) w) f) tx len W := fun _ _ _ => hW
  have hWy : ∀ k f, wR (MV.u_dr (MV.u_at_ s k) f) tx len W := fun _ _ => hW
  have f181 : ∀ k f, (rdR s.n tx W k0 D).1 = false → (rdR s.n tx W k0 D).2.1 = k → BlkM g M_X10_readRule x0 Q 181 [(0, .ref x0), (1, .int (nI (6 * s.dn)))] [] (MV.u_dr (MV.u_wr (MV.u_at_ s k) 1) f) := by
    intro k f h1 h2
    subst h2
    exact v_X10_readRule_181 ⟨by show 1 < 2 ^ 31; decide, fun _ => hF h1 (s.dn + 1) f, fun z => absurd z (by show ¬ (1 : Nat) = 0; decide)⟩
  have t181 : ∀ k f a c cm b, k ≤ 140 → paR f (6 * s.dn) a c cm b → (∀ i, i < 6 * s.dn → f i = s.dr i) → rdR s.n tx W k0 D = rdV s.n tx W k D a c cm b → BlkM g M_X10_readRule x0 Q 181 [(0, .ref x0), (1, .int (nI (6 * s.dn)))] [] (MV.u_dr (MV.u_at_ s k) f) := by
    intro k f a c cm b hk hpa hfi hr
    rw [hr] at hT hF
    refine v_X10_readRule_181 ⟨by show s.wr < _; omega, fun z => absurd hwr z, fun _ => ?_⟩
    refine m_value (s := (MV.u_dr (MV.u_at_ s k) f)) hn (by omega) (hWy k f) (by show k < _; omega) hwr (fun hv f' => ⟨rfl, ?_⟩) (fun v f' hv hf' hval => ⟨rfl, ?_⟩)
    · replace hv : valA s.n tx W k = none := hv
      unfold rdV at hF
      rw [hv] at hF
      exact hF rfl (s.dn + 1) f'
    · replace hv : valA s.n tx W k = some v := hv
      replace hval : (v < s.n ∧ f' (6 * s.dn + 4) = 0 ∧ f' (6 * s.dn + 5) = nI v) ∨ (v = 1000 ∧ f' (6 * s.dn + 4) = nI 2) ∨ (v = 1001 ∧ f' (6 * s.dn + 4) = nI 3) ∨ (v = 1002 ∧ f' (6 * s.dn + 4) = nI 5) := hval
      replace hf' : ∀ i, i < 6 * s.dn + 4 ∨ 6 * s.dn + 6 ≤ i → f' i = f i := hf'
      unfold rdV at hT
      rw [hv] at hT
      obtain ⟨p1, p2, p3, p4, p5, p6⟩ := hpa
      refine hT rfl f' ?_ (fun i hi => (hf' i (by omega)).trans (hfi i hi))
      unfold enR rlAdd
      show f' (6 * s.dn) = nI (va_up D.1 D.2.2.2.2.2 a s.dn) ∧ va_up D.1 D.2.2.2.2.2 a s.dn ≤ 4 ∧ va_up D.2.1 D.2.2.2.2.2 c s.dn < 1000 ∧ va_up D.2.2.2.1 D.2.2.2.2.2 b s.dn < 1000 ∧ (va_up D.1 D.2.2.2.2.2 a s.dn = 4 → f' (6 * s.dn + 1) = nI (va_up D.2.1 D.2.2.2.2.2 c s.dn)) ∧ (va_up D.1 D.2.2.2.2.2 a s.dn ≠ 0 → f' (6 * s.dn + 2) = nI (va_up D.2.2.1 D.2.2.2.2.2 cm s.dn) ∧ f' (6 * s.dn + 3) = nI (va_up D.2.2.2.1 D.2.2.2.2.2 b s.dn) ∧ (va_up D.2.2.1 D.2.2.2.2.2 cm s.dn = 60 ∨ va_up D.2.2.1 D.2.2.2.2.2 cm s.dn = 61 ∨ va_up D.2.2.1 D.2.2.2.2.2 cm s.dn = 62)) ∧ ((va_up D.2.2.2.2.1 D.2.2.2.2.2 v s.dn < s.n ∧ f' (6 * s.dn + 4) = 0 ∧ f' (6 * s.dn + 5) = nI (va_up D.2.2.2.2.1 D.2.2.2.2.2 v s.dn)) ∨ (va_up D.2.2.2.2.1 D.2.2.2.2.2 v s.dn = 1000 ∧ f' (6 * s.dn + 4) = nI 2) ∨ (va_up D.2.2.2.2.1 D.2.2.2.2.2 v s.dn = 1001 ∧ f' (6 * s.dn + 4) = nI 3) ∨ (va_up D.2.2.2.2.1 D.2.2.2.2.2 v s.dn = 1002 ∧ f' (6 * s.dn + 4) = nI 5))
      rw [hD, up_s, up_s, up_s, up_s, up_s, hf' (6 * s.dn) (by omega), hf' (6 * s.dn + 1) (by omega), hf' (6 * s.dn + 2) (by omega), hf' (6 * s.dn + 3) (by omega)]
      exact ⟨p1, p2, p3, p4, p5, p6, hval⟩
  have f133 : ∀ k f, k ≤ 135 → (rdR s.n tx W k0 D).1 = false → (rdR s.n tx W k0 D).2.1 = k → BlkM g M_X10_readRule x0 Q 133 [(0, .ref x0), (1, .int (nI (6 * s.dn)))] [] (MV.u_dr (MV.u_wr (MV.u_at_ s k) 1) f) := by
    intro k f hk h1 h2
    refine v_X10_readRule_133 (m_number (s := (MV.u_dr (MV.u_wr (MV.u_at_ s k) 1) f)) (hWx k 1 f) (by show k < _; omega) (by show 1 ≤ 1; decide) (fun _ => ⟨_, rfl, by omega, by show 1 < 2 ^ 31; decide, fun _ => f181 k _ h1 h2, fun z => absurd z (by show ¬ (1 : Nat) = 0; decide)⟩) (fun z => absurd z (by show ¬ (1 : Nat) = 0; decide)) (fun v z => absurd z (by show ¬ (1 : Nat) = 0; decide)))
  have t133 : ∀ k f a c cm, k ≤ 135 → f (6 * s.dn) = nI a → a ≤ 4 → 0 < a → c < 1000 → (a = 4 → f (6 * s.dn + 1) = nI c) → f (6 * s.dn + 2) = nI cm → (cm = 60 ∨ cm = 61 ∨ cm = 62) → (∀ i, i < 6 * s.dn → f i = s.dr i) → (numA tx W k = none → rdR s.n tx W k0 D = (false, k, D)) → (∀ b, numA tx W k = some b → rdR s.n tx W k0 D = if wIs tx W (k + 1) 8 = true then rdV s.n tx W (k + 2) D a c cm b else (false, k + 1, D)) → BlkM g M_X10_readRule x0 Q 133 [(0, .ref x0), (1, .int (nI (6 * s.dn)))] [] (MV.u_dr (MV.u_at_ s k) f) := by
    intro k f a c cm hk fa a4 a0 c1 f1 f2 hcm hfi rN rS
    refine v_X10_readRule_133 (m_number (s := (MV.u_dr (MV.u_at_ s k) f)) (hWy k f) (by show k < _; omega) (by show s.wr ≤ 1; omega) (fun z => absurd z (by show ¬ s.wr = 1; omega)) (fun _ hN => ⟨_, rfl, by omega, by show 1 < 2 ^ 31; decide, fun _ => ?_, fun z => absurd z (by show ¬ (1 : Nat) = 0; decide)⟩) (fun b _ hN => ⟨_, rfl, by omega, by show s.wr < _; omega, fun z => absurd hwr z, fun _ => ?_⟩))
    · have e := rN hN
      exact f181 k _ (by rw [e]) (by rw [e])
    · have e := rS b hN
      have hb := numA_lt hW.2.2.2.2.1 hN
      refine m_is1 (s := (MV.u_dr (MV.u_at_ s (k + 1)) (va_up f (6 * s.dn + 3) (nI b)))) (j := 8) (hWy _ _) (by show k + 1 < _; omega) (by decide) rfl ⟨_, rfl, tI _, fun z => ?_, fun z => ?_⟩
      · have z' : wIs tx W (k + 1) 8 = false := t0 z
        rw [z'] at e
        exact f181 (k + 1) _ (by rw [e]; rfl) (by rw [e]; rfl)
      · have z' : wIs tx W (k + 1) 8 = true := t1 z
        rw [if_pos z'] at e
        refine t181 (k + 2) _ a c cm b (by omega) ⟨?_, a4, c1, hb, fun h => ?_, fun _ => ⟨?_, up_s, hcm⟩⟩ (fun i hi => ?_) e
        · rw [up_n (by omega)]; exact fa
        · rw [up_n (by omega)]; exact f1 h
        · rw [up_n (by omega)]; exact f2
        · rw [up_n (by omega)]; exact hfi i hi
  refine ⟨fun k f a c hk fa a4 a0 c1 f1 hfi hr => ?_, fun k f hk h1 h2 => ?_, fun k f hk f0 hfi hr => t181 k f 0 0 61 0 (by omega) ⟨f0, by decide, by decide, by decide, fun h => absurd h (by decide), fun h => absurd rfl h⟩ hfi hr⟩
  · refine v_X10_readRule_79 ⟨by show s.wr < _; omega, fun z => absurd hwr z, fun _ => m_isSignHere (s := (MV.u_dr (MV.u_at_ s k) f)) (hWy k f) (by show k < _; omega) ⟨_, rfl, tI _, fun z => ?_, fun z => ?_⟩⟩
    · have z' : isC tx W k = false := t0 z
      have e : rdR s.n tx W k0 D = (false, k, D) := by rw [hr]; unfold rdB; rw [z']; rfl
      exact f133 k f (by omega) (by rw [e]) (by rw [e])
    · have z' : isC tx W k = true := t1 z
      have hlt := isC_lt z'
      obtain ⟨r1, r2, r3, r4, r5, r6, r7⟩ := hW
      obtain ⟨e1, e2⟩ := r2 k hlt
      obtain ⟨o1, o2, -⟩ := r5 k hlt
      have hb : rdR s.n tx W k0 D = (match numA tx W (k + 1) with | none => (false, k + 1, D) | some b => if wIs tx W (k + 2) 8 = true then rdV s.n tx W (k + 3) D a c (tx (W.1 k)) b else (false, k + 2, D)) := by
        rw [hr]
        unfold rdB
        rw [if_pos z']
        cases numA tx W (k + 1) <;> rfl
      have etx : s.tx (s.wf k) = tx (W.1 k) := by rw [e1]; exact r3 _ (by omega)
      refine ⟨by show k < 121; omega, by show s.wf k < 120; omega, by omega, ?_⟩
      show BlkM g M_X10_readRule x0 Q 133 [(0, .ref x0), (1, .int (nI (6 * s.dn)))] [] (MV.u_dr (MV.u_at_ s (k + 1)) (va_up f (6 * s.dn + 2) (nI (s.tx (s.wf k)))))
      rw [etx]
      refine t133 (k + 1) _ a c (tx (W.1 k)) (by omega) ?_ a4 a0 c1 (fun h => ?_) up_s (isC_sign z') (fun i hi => ?_) (fun hN => ?_) (fun b hN => ?_)
      · rw [up_n (by omega)]; exact fa
      · rw [up_n (by omega)]; exact f1 h
      · rw [up_n (by omega)]; exact hfi i hi
      · rw [hb, hN]
      · rw [hb, hN]
  · exact v_X10_readRule_79 ⟨by show 1 < 2 ^ 31; decide, fun _ => f133 k f (by omega) h1 h2, fun z => absurd z (by show ¬ (1 : Nat) = 0; decide)⟩
theorem m_readRule {D : Rl} (hn : s.n ≤ 6) (hW : wR s tx len W) (hat : s.at_ ≤ 121) (hwr : s.wr = 0) (hdn : s.dn < 20) (hD : D.2.2.2.2.2 = s.dn)
    (hT : (rdR s.n tx W s.at_ D).1 = true → ∀ f, enR s.n f (rdR s.n tx W s.at_ D).2.2 s.dn → (∀ i, i < 6 * s.dn → f i = s.dr i) → Q none (MV.u_dr (MV.u_dn (MV.u_at_ s ((rdR s.n tx W s.at_ D).2.1)) (s.dn + 1)) f))
    (hF : (rdR s.n tx W s.at_ D).1 = false → ∀ d f, Q none (MV.u_dr (MV.u_dn (MV.u_wr (MV.u_at_ s ((rdR s.n tx W s.at_ D).2.1)) 1) d) f)) : CtM g M_X10_readRule [.ref x0] x0 s Q := by
  obtain ⟨L1, L2, L3⟩ := l_readRule (g := g) (x0 := x0) hn hW hwr hdn hD hT hF
  have hWy : ∀ f, wR (MV.u_dr s f) tx len W := fun _ => hW
  have h5 := sH_le (tx := tx) (W := W) (k := s.at_)
  have hfi : ∀ (x : Int32) i, i < 6 * s.dn → va_up s.dr (6 * s.dn) x i = s.dr i := fun x i hi => up_n (by omega)
  refine CtM.of (by decide +kernel) (Nat.le_of_ble_eq_true rfl) (v_X10_readRule_0 ⟨⟨by omega, by decide⟩, fun _ => ⟨by omega, m_hasCondition (s := (MV.u_dr s (va_up s.dr (6 * s.dn) (nI 0)))) (hWy _) (by show s.at_ < _; omega) ⟨_, rfl, ?_, fun z => ?_, fun z => ?_⟩⟩, fun z => absurd z (by omega)⟩)
  · split <;> decide
  · have z' : amtA tx W s.at_ = 0 := by
      rcases Nat.eq_zero_or_pos (amtA tx W s.at_) with y | y
      · exact y
      · rw [if_neg (by show ¬ amtA tx W s.at_ = 0; omega)] at z; exact absurd z (by decide)
    exact L3 s.at_ _ (by omega) up_s (hfi _) (by unfold rdR; rw [if_pos z'])
  · have z' : ¬ amtA tx W s.at_ = 0 := by
      intro y
      rw [if_pos (show amtA tx W (MV.at_ (MV.u_dr s (va_up s.dr (6 * s.dn) (nI 0)))) = 0 from y)] at z
      exact absurd rfl z
    have hs : amtA tx W s.at_ = sH tx W s.at_ := by
      rw [amtA_sH] at z' ⊢
      split
      · rfl
      · rename_i h
        rw [if_neg h] at z'
        exact absurd rfl z'
    have ha := amtA_le (tx := tx) (s := W) (k := s.at_)
    have hfi2 : ∀ (x y : Int32) i, i < 6 * s.dn → va_up (va_up s.dr (6 * s.dn) x) (6 * s.dn) y i = s.dr i := fun x y i hi => (up_n (by omega)).trans (up_n (by omega))
    refine m_sortHere (s := (MV.u_dr s (va_up s.dr (6 * s.dn) (nI 0)))) (hWy _) (by show s.at_ < _; omega) ⟨_, rfl, by omega, by omega, ?_⟩
    show (¬ va_up (va_up s.dr (6 * s.dn) (nI 0)) (6 * s.dn) (nI (sH tx W s.at_)) (6 * s.dn) = nI 4 → _) ∧ (va_up (va_up s.dr (6 * s.dn) (nI 0)) (6 * s.dn) (nI (sH tx W s.at_)) (6 * s.dn) = nI 4 → _)
    rw [up_s, ← hs]
    refine ⟨fun y => ?_, fun y => ?_⟩
    · have y' : ¬ amtA tx W s.at_ = 4 := fun x => y (by rw [x])
      exact L1 (s.at_ + 1) _ (amtA tx W s.at_) 0 (by omega) up_s ha (by omega) (by decide) (fun h => absurd h y') (hfi2 _ _) (by unfold rdR; rw [if_neg z', if_neg y'])
    · have y' : amtA tx W s.at_ = 4 := (nI_eq (by omega) (by decide)).mp y
      have hrd : rdR s.n tx W s.at_ D = (match numA tx W (s.at_ + 1) with | none => (false, s.at_ + 1, D) | some c => rdB s.n tx W (s.at_ + 2) D 4 c) := by
        unfold rdR
        rw [if_neg z', if_pos y']
        cases numA tx W (s.at_ + 1) <;> rfl
      rw [y']
      refine m_number (s := (MV.u_at_ (MV.u_dr s (va_up (va_up s.dr (6 * s.dn) (nI 0)) (6 * s.dn) (nI 4))) (s.at_ + 1))) (tx := tx) (len := len) (W := W) hW (by show s.at_ + 1 < _; omega) (by show s.wr ≤ 1; omega) (fun z => absurd z (by show ¬ s.wr = 1; omega)) (fun _ hN => ⟨_, rfl, by omega, ?_⟩) (fun c _ hN => ⟨_, rfl, by omega, ?_⟩)
      · replace hN : numA tx W (s.at_ + 1) = none := hN
        rw [hN] at hrd
        exact L2 (s.at_ + 1) _ (by omega) (by rw [hrd]) (by rw [hrd])
      · replace hN : numA tx W (s.at_ + 1) = some c := hN
        rw [hN] at hrd
        have hc := numA_lt hW.2.2.2.2.1 hN
        exact L1 (s.at_ + 2) _ 4 c (by omega) ((up_n (by omega)).trans up_s) (by decide) (by decide) hc (fun _ => up_s) (fun i hi => (up_n (by omega)).trans (hfi2 _ _ i hi)) hrd
theorem m_readRule20 (hdn : s.dn = 20) (hp : Q none (MV.u_wr s 1)) : CtM g M_X10_readRule [.ref x0] x0 s Q :=
  CtM.of (by decide +kernel) (Nat.le_of_ble_eq_true rfl) (v_X10_readRule_0 ⟨⟨by omega, by decide⟩, fun z => absurd hdn z, fun _ => hp⟩)
end M16
