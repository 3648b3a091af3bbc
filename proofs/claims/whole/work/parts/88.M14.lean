/-! the reference: words -/
def wR (s : MV) (tx : Nat → Nat) (len : Nat) (W : Wd) : Prop := s.wn = W.2.2 ∧ (∀ k, k < W.2.2 → s.wf k = W.1 k ∧ s.wt k = W.2.1 k) ∧ (∀ i, i < len → s.tx i = tx i) ∧ (∀ i, i < len → tx i < 65536) ∧ wOK tx len W ∧ W.2.2 ≤ 120 ∧ len ≤ 120
def pf (tx : Nat → Nat) (f : Nat) (c : Nat) : Bool := (isD (tx f) && isD c) || (isL (tx f) && isL c)
theorem wrun_congr {p p' : Nat → Bool} {tx : Nat → Nat} (h : ∀ c, p c = p' c) : ∀ d e, wrun p tx d e = wrun p' tx d e
  | 0, _ => rfl
  | d + 1, e => by rw [wrun_s, wrun_s, h, wrun_congr h d (e + 1)]
theorem pf_wend {tx : Nat → Nat} {len f : Nat} : wrun (pf tx f) tx (len - (f + 1)) (f + 1) = wend tx len f := by
  unfold wend
  by_cases q : isL (tx f) = true
  · have hd : isD (tx f) = false := by
      unfold isL at q
      unfold isD
      simp at q ⊢
      omega
    rw [if_pos q]
    exact wrun_congr (fun c => by unfold pf; rw [q, hd]; simp) _ _
  · have q' : isL (tx f) = false := by simpa using q
    rw [if_neg q]
    by_cases z : isD (tx f) = true
    · rw [if_pos z]
      exact wrun_congr (fun c => by unfold pf; rw [q', z]; simp) _ _
    · have z' : isD (tx f) = false := by simpa using z
      rw [if_neg z]
      cases h : len - (f + 1) with
      | zero => rfl
      | succ d =>
        rw [wrun_s, if_neg (by unfold pf; rw [q', z']; simp)]
theorem wIs1 {tx : Nat → Nat} {W : Wd} {k j a : Nat} (hl : litC j = [a]) : wIs tx W k j = true ↔ k < W.2.2 ∧ W.2.1 k - W.1 k = 1 ∧ tx (W.1 k) = a := by
  unfold wIs
  rw [hl]
  simp [List.range, List.range.loop, and_assoc]
theorem wIs3 {tx : Nat → Nat} {W : Wd} {k j a b c : Nat} (hl : litC j = [a, b, c]) : wIs tx W k j = true ↔ k < W.2.2 ∧ W.2.1 k - W.1 k = 3 ∧ tx (W.1 k) = a ∧ tx (W.1 k + 1) = b ∧ tx (W.1 k + 2) = c := by
  unfold wIs
  rw [hl]
  simp [List.range, List.range.loop, and_assoc]
section M14
variable {g : xG} {Q : mQ} {s : MV} {x0 : Nat} {tx : Nat → Nat} {len : Nat} {W : Wd}
theorem m_split (hs : s.sz = len) (hl : len ≤ 120) (ht : ∀ i, i < len → s.tx i = tx i) (ht2 : ∀ i, i < len → tx i < 65536) (hok : wOK tx len (wds tx len)) (hok2 : (wds tx len).2.2 ≤ 120)
    (hp : ∀ wn wf wt, wR (MV.u_wt (MV.u_wf (MV.u_wn s wn) wf) wt) tx len (wds tx len) → Q none (MV.u_wt (MV.u_wf (MV.u_wn s wn) wf) wt)) : CtM g M_X10_split [.ref x0] x0 s Q := by
  have main : ∀ (d f wn : Nat) (wf wt : Nat → Nat) (V : Wd), len ≤ d + f → spl tx len d f V = wds tx len → wn = V.2.2 → (∀ k, k < V.2.2 → wf k = V.1 k ∧ wt k = V.2.1 k) → V.2.2 ≤ f → f ≤ len → BlkM g M_X10_split x0 Q 7 [(0, .ref x0), (1, .int (nI f))] [] (MV.u_wt (MV.u_wf (MV.u_wn s wn) wf) wt) := by
    intro d
    induction d with
    | zero =>
      intro f wn wf wt V hd hS h1 h2 h3 h4
      have hV : V = wds tx len := hS
      subst hV
      exact v_X10_split_7 ⟨⟨by omega, by show s.sz < _; omega⟩, fun _ => hp wn wf wt ⟨h1, h2, ht, ht2, hok, hok2, hl⟩, fun q => absurd q (by show ¬ f < s.sz; omega)⟩
    | succ d ih =>
      intro f wn wf wt V hd hS h1 h2 h3 h4
      rw [spl_s] at hS
      by_cases q : f < len
      · rw [if_pos q] at hS
        have tf : MV.tx (MV.u_wt (MV.u_wf (MV.u_wn s wn) wf) wt) f = tx f := ht f q
        have tl := ht2 f q
        obtain ⟨w1, w2, -⟩ := wend_b (tx := tx) q
        have E : ∀ k, k = wend tx len f → (f < 120 ∧ ((tx f < 2 ^ 31 ∧ 32 < 2 ^ 31) ∧ ((tx f = 32 → BlkM g M_X10_split x0 Q 7 [(0, .ref x0), (1, .int (nI k))] [] (MV.u_wt (MV.u_wf (MV.u_wn s wn) wf) wt)) ∧ (¬ tx f = 32 → (wn < 121 ∧ (wn < 121 ∧ BlkM g M_X10_split x0 Q 7 [(0, .ref x0), (1, .int (nI k))] [] (MV.u_wt (MV.u_wf (MV.u_wn s (wn + 1)) (va_up wf wn f)) (va_up wt wn k)))))))) := by
          intro k hk
          subst hk
          refine ⟨by omega, ⟨by omega, by decide⟩, fun z => ?_, fun z => ⟨by omega, by omega, ?_⟩⟩
          · have e : wPut tx len f V = V := by unfold wPut; rw [if_pos z]
            rw [e] at hS
            exact ih (wend tx len f) wn wf wt V (by omega) hS h1 h2 (by omega) w2
          · have e : wPut tx len f V = (va_up V.1 V.2.2 f, va_up V.2.1 V.2.2 (wend tx len f), V.2.2 + 1) := by unfold wPut; rw [if_neg z]
            rw [e] at hS
            refine ih (wend tx len f) (wn + 1) (va_up wf wn f) (va_up wt wn (wend tx len f)) _ (by omega) hS (by show wn + 1 = V.2.2 + 1; omega) (fun k hk => ?_) (by show V.2.2 + 1 ≤ _; omega) w2
            replace hk : k < V.2.2 + 1 := hk
            show va_up wf wn f k = va_up V.1 V.2.2 f k ∧ va_up wt wn (wend tx len f) k = va_up V.2.1 V.2.2 (wend tx len f) k
            rw [h1]
            by_cases y : k = V.2.2
            · subst y; rw [up_s, up_s, up_s, up_s]; exact ⟨rfl, rfl⟩
            · rw [up_n y, up_n y, up_n y, up_n y]; exact h2 k (by omega)
        have inner : ∀ (m k : Nat), k + m = len → f < k → wrun (pf tx f) tx m k = wend tx len f → BlkM g M_X10_split x0 Q 20 [(0, .ref x0), (1, .int (nI k)), (2, .int (nI f))] [] (MV.u_wt (MV.u_wf (MV.u_wn s wn) wf) wt) := by
          intro m
          induction m with
          | zero =>
            intro k hk hfk hw
            refine v_X10_split_20 ⟨⟨by omega, by show s.sz < _; omega⟩, fun _ => ?_, fun q => absurd q (by show ¬ k < s.sz; omega)⟩
            rw [tf]
            exact E k hw
          | succ m ihm =>
            intro k hk hfk hw
            have tk : MV.tx (MV.u_wt (MV.u_wf (MV.u_wn s wn) wf) wt) k = tx k := ht k (by omega)
            have tlk := ht2 k (by omega)
            rw [wrun_s] at hw
            refine v_X10_split_20 ⟨⟨by omega, by show s.sz < _; omega⟩, fun q => absurd q (by show ¬ s.sz ≤ k; omega), fun _ => ⟨by omega, ?_⟩⟩
            rw [tf, tk]
            have no : ¬ pf tx f (tx k) = true → k = wend tx len f := fun z => by rw [if_neg z] at hw; exact hw
            have yes : pf tx f (tx k) = true → BlkM g M_X10_split x0 Q 20 [(0, .ref x0), (1, .int (nI (k + 1))), (2, .int (nI f))] [] (MV.u_wt (MV.u_wf (MV.u_wn s wn) wf) wt) := fun z => by
              rw [if_pos z] at hw
              exact ihm (k + 1) (by omega) (by omega) hw
            have i1 : ∀ b : Bool, (if b = true then 1 else 0) < 2 ^ 31 := fun b => by cases b <;> decide
            have z0 : ∀ {b : Bool}, (if b = true then 1 else 0) = 0 → b = false := fun {b} h => by cases b; rfl; cases h
            have z1 : ∀ {b : Bool}, ¬ (if b = true then 1 else 0) = 0 → b = true := fun {b} h => by cases b; exact absurd rfl h; rfl
            refine m_isDigit (by omega) ⟨_, rfl, i1 _, fun a1 => ⟨by omega, m_isLetter (by omega) ⟨_, rfl, i1 _, fun a2 => E k (no ?_), fun a2 => ⟨by omega, m_isLetter (by omega) ⟨_, rfl, i1 _, fun a3 => E k (no ?_), fun a3 => yes ?_⟩⟩⟩⟩, fun a1 => ⟨by omega, m_isDigit (by omega) ⟨_, rfl, i1 _, fun a2 => yes ?_, fun a2 => ⟨by omega, m_isLetter (by omega) ⟨_, rfl, i1 _, fun a3 => E k (no ?_), fun a3 => ⟨by omega, m_isLetter (by omega) ⟨_, rfl, i1 _, fun a4 => E k (no ?_), fun a4 => yes ?_⟩⟩⟩⟩⟩⟩⟩
            · unfold pf; rw [z0 a1, z0 a2]; simp
            · unfold pf; rw [z0 a1, z0 a3]; simp
            · unfold pf; rw [z1 a2, z1 a3]; simp
            · unfold pf; rw [z1 a1, z1 a2]; simp
            · unfold pf; rw [z0 a2, z0 a3]; simp
            · unfold pf; rw [z0 a2, z0 a4]; simp
            · unfold pf; rw [z1 a3, z1 a4]; simp
        exact v_X10_split_7 ⟨⟨by omega, by show s.sz < _; omega⟩, fun z => absurd z (by show ¬ s.sz ≤ f; omega), fun _ => inner (len - (f + 1)) (f + 1) (by omega) (by omega) pf_wend⟩
      · rw [if_neg q] at hS
        subst hS
        exact v_X10_split_7 ⟨⟨by omega, by show s.sz < _; omega⟩, fun _ => hp wn wf wt ⟨h1, h2, ht, ht2, hok, hok2, hl⟩, fun z => absurd z (by show ¬ f < s.sz; omega)⟩
  exact CtM.of (by decide +kernel) (Nat.le_of_ble_eq_true rfl) (v_X10_split_0 (main len 0 0 s.wf s.wt (fun _ => 0, fun _ => 0, 0) (by omega) rfl rfl (fun k hk => absurd hk (by show ¬ k < 0; omega)) (Nat.le_refl _) (Nat.zero_le _)))
theorem m_is1 {a j : Nat} (hW : wR s tx len W) (hat : s.at_ < 2 ^ 31) (ha : a < 65536) (hl : litC j = [a]) (hp : Q (some (.int (nI (if wIs tx W s.at_ j = true then 1 else 0)))) s) : CtM g M_X10_is [.ref x0, .int (nI a), .int (nI 0), .int (nI 0)] x0 s Q := by
  obtain ⟨r1, r2, r3, r4, r5, r6, r7⟩ := hW
  have fin : ∀ f m, m < 2 ^ 31 → f < 120 → (wIs tx W s.at_ j = true ↔ m = 1 ∧ s.tx f = a) → s.tx f < 2 ^ 31 → BlkM g M_X10_is x0 Q 55 [(0, .ref x0), (1, .int (nI a)), (2, .int (nI 0)), (3, .int (nI 0)), (4, .int (nI f)), (5, .int (nI m))] [] s := by
    intro f m hm hf hi ht
    refine v_X10_is_55 ⟨by decide, fun _ => ⟨by decide, fun _ => ?_, fun z => absurd rfl z⟩, fun z => absurd rfl z⟩
    refine v_X10_is_74 ⟨⟨hm, by decide⟩, fun z => ?_, fun z => ⟨hf, ⟨ht, by omega⟩, fun z2 => ?_, fun z2 => ⟨⟨hm, by decide⟩, fun _ => ⟨⟨hm, by decide⟩, fun _ => ?_, fun y => absurd y (by omega)⟩, fun y => absurd y (by omega)⟩⟩⟩
    · rw [if_neg (fun h => z (hi.mp h).1)] at hp; exact hp
    · rw [if_neg (fun h => z2 (hi.mp h).2)] at hp; exact hp
    · rw [if_pos (hi.mpr ⟨z, z2⟩)] at hp; exact hp
  by_cases q : s.at_ < W.2.2
  · obtain ⟨e1, e2⟩ := r2 s.at_ q
    obtain ⟨o1, o2, -⟩ := r5 s.at_ q
    have hh : BlkM g M_X10_is x0 Q 55 [(0, .ref x0), (1, .int (nI a)), (2, .int (nI 0)), (3, .int (nI 0)), (4, .int (nI (s.wf s.at_))), (5, .int (nI (s.wt s.at_ - s.wf s.at_)))] [] s := by
      have ef := r3 (W.1 s.at_) (by omega)
      have el := r4 (W.1 s.at_) (by omega)
      rw [e1, e2]
      refine fin _ _ (by omega) (by omega) ?_ (by omega)
      rw [wIs1 hl, ef]
      exact ⟨fun h => h.2, fun h => ⟨q, h⟩⟩
    exact CtM.of (by decide +kernel) (Nat.le_of_ble_eq_true rfl) (v_X10_is_0 ⟨⟨hat, by omega⟩, fun z => absurd z (by omega), fun _ => ⟨by omega, ⟨hat, by omega⟩, fun z => absurd z (by omega), fun _ => ⟨by omega, by omega, hh⟩⟩⟩)
  · refine CtM.of (by decide +kernel) (Nat.le_of_ble_eq_true rfl) (v_X10_is_0 ⟨⟨hat, by omega⟩, fun _ => ⟨⟨hat, by omega⟩, fun _ => ?_, fun z => absurd z (by omega)⟩, fun z => absurd z (by omega)⟩)
    refine v_X10_is_55 ⟨by decide, fun _ => ⟨by decide, fun _ => v_X10_is_74 ⟨⟨by decide, by decide⟩, fun z => ?_, fun z => absurd z (by decide)⟩, fun z => absurd rfl z⟩, fun z => absurd rfl z⟩
    rw [if_neg (fun h => q ((wIs1 hl).mp h).1)] at hp
    exact hp
theorem m_is3 {a b c j : Nat} (hW : wR s tx len W) (hat : s.at_ < 2 ^ 31) (ha : a < 65536) (hb : 0 < b ∧ b < 65536) (hc : 0 < c ∧ c < 65536) (hl : litC j = [a, b, c]) (hp : Q (some (.int (nI (if wIs tx W s.at_ j = true then 1 else 0)))) s) : CtM g M_X10_is [.ref x0, .int (nI a), .int (nI b), .int (nI c)] x0 s Q := by
  obtain ⟨r1, r2, r3, r4, r5, r6, r7⟩ := hW
  by_cases q : s.at_ < W.2.2
  · obtain ⟨e1, e2⟩ := r2 s.at_ q
    obtain ⟨o1, o2, -⟩ := r5 s.at_ q
    have hh : BlkM g M_X10_is x0 Q 55 [(0, .ref x0), (1, .int (nI a)), (2, .int (nI b)), (3, .int (nI c)), (4, .int (nI (s.wf s.at_))), (5, .int (nI (s.wt s.at_ - s.wf s.at_)))] [] s := by
      have ef := r3 (W.1 s.at_) (by omega)
      have el := r4 (W.1 s.at_) (by omega)
      rw [e1, e2]
      refine v_X10_is_55 ⟨by omega, fun z => absurd z (by omega), fun _ => ?_⟩
      refine v_X10_is_74 ⟨⟨by omega, by decide⟩, fun z => ?_, fun z => ⟨by omega, ⟨by omega, by omega⟩, fun z2 => ?_, fun z2 => ⟨⟨by omega, by decide⟩, fun y => absurd y (by omega), fun _ => ⟨by omega, ?_⟩⟩⟩⟩
      · rw [if_neg (fun h => z ((wIs3 hl).mp h).2.1)] at hp; exact hp
      · rw [if_neg (fun h => z2 (by rw [ef]; exact ((wIs3 hl).mp h).2.2.1))] at hp; exact hp
      · have e3 := r3 (W.1 s.at_ + 1) (by omega)
        have l3 := r4 (W.1 s.at_ + 1) (by omega)
        have e4 := r3 (W.1 s.at_ + 2) (by omega)
        have l4 := r4 (W.1 s.at_ + 2) (by omega)
        refine ⟨⟨by omega, by omega⟩, fun z3 => ?_, fun z3 => ⟨⟨by omega, by decide⟩, fun y => absurd y (by omega), fun _ => ⟨by omega, ⟨by omega, by omega⟩, fun z4 => ?_, fun z4 => ?_⟩⟩⟩
        · rw [if_neg (fun h => z3 (by rw [e3]; exact ((wIs3 hl).mp h).2.2.2.1))] at hp; exact hp
        · rw [if_neg (fun h => z4 (by rw [e4]; exact ((wIs3 hl).mp h).2.2.2.2))] at hp; exact hp
        · rw [if_pos ((wIs3 hl).mpr ⟨q, z, by rw [← ef]; exact z2, by rw [← e3]; exact z3, by rw [← e4]; exact z4⟩)] at hp; exact hp
    exact CtM.of (by decide +kernel) (Nat.le_of_ble_eq_true rfl) (v_X10_is_0 ⟨⟨hat, by omega⟩, fun z => absurd z (by omega), fun _ => ⟨by omega, ⟨hat, by omega⟩, fun z => absurd z (by omega), fun _ => ⟨by omega, by omega, hh⟩⟩⟩)
  · refine CtM.of (by decide +kernel) (Nat.le_of_ble_eq_true rfl) (v_X10_is_0 ⟨⟨hat, by omega⟩, fun _ => ⟨⟨hat, by omega⟩, fun _ => ?_, fun z => absurd z (by omega)⟩, fun z => absurd z (by omega)⟩)
    refine v_X10_is_55 ⟨by omega, fun z => absurd z (by omega), fun _ => v_X10_is_74 ⟨⟨by decide, by decide⟩, fun z => ?_, fun z => absurd z (by decide)⟩⟩
    rw [if_neg (fun h => q ((wIs3 hl).mp h).1)] at hp
    exact hp
theorem numA_iff {k : Nat} : (numA tx W k).isSome = true ↔ k < W.2.2 ∧ W.2.1 k - W.1 k ≤ 3 ∧ isD (tx (W.1 k)) = true := by
  unfold numA
  by_cases q : k < W.2.2 ∧ W.2.1 k - W.1 k ≤ 3 ∧ isD (tx (W.1 k)) = true
  · rw [if_pos q]; exact ⟨fun _ => q, fun _ => rfl⟩
  · rw [if_neg q]; exact ⟨fun h => absurd h (by simp), fun h => absurd h q⟩
theorem m_isNumber (hW : wR s tx len W) (hat : s.at_ < 2 ^ 31) (hp : Q (some (.int (nI (if (numA tx W s.at_).isSome = true then 1 else 0)))) s) : CtM g M_X10_isNumber [.ref x0] x0 s Q := by
  obtain ⟨r1, r2, r3, r4, r5, r6, r7⟩ := hW
  have yes : (s.at_ < W.2.2 ∧ W.2.1 s.at_ - W.1 s.at_ ≤ 3 ∧ isD (tx (W.1 s.at_)) = true) → Q (some (.int (nI 1))) s := fun h => by rw [if_pos (numA_iff.mpr h)] at hp; exact hp
  have no : ¬ (s.at_ < W.2.2 ∧ W.2.1 s.at_ - W.1 s.at_ ≤ 3 ∧ isD (tx (W.1 s.at_)) = true) → Q (some (.int (nI 0))) s := fun h => by rw [if_neg (fun x => h (numA_iff.mp x))] at hp; exact hp
  by_cases q : s.at_ < W.2.2
  · obtain ⟨e1, e2⟩ := r2 s.at_ q
    obtain ⟨o1, o2, -⟩ := r5 s.at_ q
    have ef := r3 (W.1 s.at_) (by omega)
    have el := r4 (W.1 s.at_) (by omega)
    refine CtM.of (by decide +kernel) (Nat.le_of_ble_eq_true rfl) (v_X10_isNumber_0 ⟨⟨hat, by omega⟩, fun z => absurd z (by omega), fun _ => ⟨by omega, ?_⟩⟩)
    rw [e1, e2, ef]
    refine ⟨by omega, m_isDigit (by omega) ⟨_, rfl, by split <;> decide, fun z => ?_, fun z => ⟨by omega, by omega, by omega, ⟨by omega, by decide⟩, fun z2 => no (fun h => by omega), fun z2 => ?_⟩⟩⟩
    · refine no (fun h => ?_)
      rw [if_pos h.2.2] at z
      exact absurd z (by decide)
    · by_cases y : isD (tx (W.1 s.at_)) = true
      · exact yes ⟨q, by omega, y⟩
      · rw [if_neg y] at z; exact absurd rfl z
  · exact CtM.of (by decide +kernel) (Nat.le_of_ble_eq_true rfl) (v_X10_isNumber_0 ⟨⟨hat, by omega⟩, fun _ => no (fun h => q h.1), fun z => absurd z (by omega)⟩)
theorem m_number (hW : wR s tx len W) (hat : s.at_ < 2 ^ 31) (hwr : s.wr ≤ 1) (h1 : s.wr = 1 → Q (some (.int (-1))) (MV.u_wr s 1)) (h2 : s.wr = 0 → numA tx W s.at_ = none → Q (some (.int (-1))) (MV.u_wr s 1)) (h3 : ∀ v, s.wr = 0 → numA tx W s.at_ = some v → Q (some (.int (nI v))) (MV.u_at_ s (s.at_ + 1))) : CtM g M_X10_number [.ref x0] x0 s Q := by
  refine CtM.of (by decide +kernel) (Nat.le_of_ble_eq_true rfl) (v_X10_number_0 ⟨by omega, fun z => h1 (by omega), fun z => m_isNumber hW hat ⟨_, rfl, by split <;> decide, fun y => ?_, fun y => ?_⟩⟩)
  · match hN : numA tx W s.at_ with
    | none => rw [hN] at y; exact absurd rfl y
    | some v =>
      have hv := h3 v z hN
      obtain ⟨r1, r2, r3, r4, r5, r6, r7⟩ := hW
      unfold numA at hN
      split at hN
      · rename_i hc
        obtain ⟨e1, e2⟩ := r2 s.at_ hc.1
        obtain ⟨o1, o2, o3⟩ := r5 s.at_ hc.1
        have hN' := Option.some.inj hN
        refine ⟨by omega, ?_⟩
        rw [e1]
        have main : ∀ (d k v' : Nat), k + d = W.2.1 s.at_ → W.1 s.at_ ≤ k → numF tx d k v' = v → BlkM g M_X10_number x0 Q 33 [(0, .ref x0), (1, .int (nI v')), (2, .int (nI k))] [] s := by
          intro d
          induction d with
          | zero =>
            intro k v' hk hk2 hn
            replace hn : v' = v := hn
            subst hn
            exact v_X10_number_33 ⟨by omega, ⟨by omega, by omega⟩, fun _ => hv, fun y => absurd y (by omega)⟩
          | succ d ih =>
            intro k v' hk hk2 hn
            have ek := r3 k (by omega)
            have hd := o3 hc.2.2 k hk2 (by omega)
            have hd2 : 48 ≤ tx k ∧ tx k ≤ 57 := by
              unfold isD at hd
              simpa using hd
            refine v_X10_number_33 ⟨by omega, ⟨by omega, by omega⟩, fun y => absurd y (by omega), fun _ => ⟨by omega, by omega, ?_⟩⟩
            have nx := ih (k + 1) (v' * 10 + (tx k - 48)) (by omega) (by omega) hn
            rw [ek, show 10 * v' + tx k - 48 = v' * 10 + (tx k - 48) by omega]
            exact nx
        exact main (W.2.1 s.at_ - W.1 s.at_) (W.1 s.at_) 0 (by omega) (Nat.le_refl _) hN'
      · cases hN
  · match hN : numA tx W s.at_ with
    | none => exact h2 z hN
    | some v => rw [hN] at y; exact absurd y (by simp)
end M14
