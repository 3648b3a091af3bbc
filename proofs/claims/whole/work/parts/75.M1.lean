/-! the reference: small tests, what is told -/
theorem in32 {x : Int32} {lo hi : Nat} (hl : lo < 2 ^ 31) (hh : hi + 1 < 2 ^ 31) {A B : Prop} (h1 : ∀ t, lo ≤ t → t ≤ hi → x = nI t → B) (h0 : (∀ t, lo ≤ t → t ≤ hi → ¬ x = nI t) → A) : (x.toInt64 < lN lo → A) ∧ (¬ x.toInt64 < lN lo → ((lN hi < x.toInt64 → A) ∧ (¬ lN hi < x.toInt64 → B))) := by
  have e1 : x.toInt64.toInt = x.toInt := Int32.toInt_toInt64 x
  have l1 := lN_toInt hl
  have l2 := lN_toInt (n := hi) (by omega)
  refine ⟨fun q => h0 (fun t h2 h3 e => ?_), fun q => ⟨fun q2 => h0 (fun t h2 h3 e => ?_), fun q2 => ?_⟩⟩
  · rw [e, nI_l (by omega), pk_lLT (by omega) (by omega)] at q; omega
  · rw [e, nI_l (by omega), pk_lLT (by omega) (by omega)] at q2; omega
  · rw [Int64.lt_iff_toInt_lt, e1, l1] at q
    rw [Int64.lt_iff_toInt_lt, e1, l2] at q2
    rcases pk_ix x hh with z | z | ⟨j, hj, hx⟩
    · rw [Int32.lt_iff_toInt_lt] at z
      have : (0 : Int32).toInt = 0 := rfl
      omega
    · rw [Int32.le_iff_toInt_le, nI_toInt hh] at z
      omega
    · rw [hx, nI_toInt (by omega)] at q q2
      exact h1 j (by omega) (by omega) hx
theorem in64 {x : Int64} {lo hi : Nat} (hl : lo < 2 ^ 63) (hh : hi < 2 ^ 63) {A B : Prop} (h1 : ∀ t, lo ≤ t → t ≤ hi → x = lN t → B) (h0 : (∀ t, lo ≤ t → t ≤ hi → ¬ x = lN t) → A) : (x < lN lo → A) ∧ (¬ x < lN lo → ((lN hi < x → A) ∧ (¬ lN hi < x → B))) := by
  refine ⟨fun q => h0 (fun t h2 h3 e => ?_), fun q => ⟨fun q2 => h0 (fun t h2 h3 e => ?_), fun q2 => ?_⟩⟩
  · rw [e, pk_lLT (by omega) (by omega)] at q; omega
  · rw [e, pk_lLT (by omega) (by omega)] at q2; omega
  · rcases lrng (x := x) with z | ⟨k, hk, e⟩
    · exfalso
      refine q (Int64.lt_of_lt_of_le z ?_)
      rw [← Int64.not_lt, pk_lLT (by omega) (by omega)]
      omega
    · rw [e, pk_lLT (by omega) (by omega)] at q q2
      exact h1 k (by omega) (by omega) e
section M1
variable {g : xG} {Q : mQ} {P : pQ} {s : MV} {x0 : Nat}
theorem m_in32 {x : Int32} {lo hi : Nat} (hl : lo < 2 ^ 31) (hh : hi + 1 < 2 ^ 31) (h1 : ∀ t, lo ≤ t → t ≤ hi → x = nI t → P (some (.int (nI 1)))) (h0 : (∀ t, lo ≤ t → t ≤ hi → ¬ x = nI t) → P (some (.int (nI 0)))) : CtP g M_X10_in [.long (x.toInt64), .long (lN lo), .long (lN hi)] P :=
  CtP.of (by decide +kernel) (Nat.le_of_ble_eq_true rfl) (v_X10_in_0 (in32 hl hh h1 h0))
theorem m_in64 {x : Int64} {lo hi : Nat} (hl : lo < 2 ^ 63) (hh : hi < 2 ^ 63) (h1 : ∀ t, lo ≤ t → t ≤ hi → x = lN t → P (some (.int (nI 1)))) (h0 : (∀ t, lo ≤ t → t ≤ hi → ¬ x = lN t) → P (some (.int (nI 0)))) : CtP g M_X10_in [.long x, .long (lN lo), .long (lN hi)] P :=
  CtP.of (by decide +kernel) (Nat.le_of_ble_eq_true rfl) (v_X10_in_0 (in64 hl hh h1 h0))
theorem m_thrown (hp : Q (some (.int (nI s.cd))) s) : CtM g M_X10_thrown [.ref x0] x0 s Q :=
  CtM.of (by decide +kernel) (Nat.le_of_ble_eq_true rfl) (v_X10_thrown_0 hp)
theorem m_isState {x : Int32} (hn : 2 ≤ s.n ∧ s.n ≤ 6) (h1 : ∀ t, t < s.n → x = nI t → Q (some (.int (nI 1))) s) (h0 : (∀ t, t < s.n → ¬ x = nI t) → Q (some (.int (nI 0))) s) : CtM g M_X10_isState [.ref x0, .int x] x0 s Q :=
  CtM.of (by decide +kernel) (Nat.le_of_ble_eq_true rfl) (v_X10_isState_0 ⟨by omega, by omega, m_in32 (by decide) (by omega) (fun t _ h2 e => ⟨1, rfl, by decide, h1 t (by omega) e⟩) (fun z => ⟨0, rfl, by decide, h0 (fun t ht => z t (by omega) (by omega))⟩)⟩)
theorem m_isPlace {x y : Int32} (h1 : ∀ a b, a < 10 → b < 12 → x = nI a → y = nI b → Q (some (.int (nI 1))) s) (h0 : (∀ a b, a < 10 → b < 12 → x = nI a → ¬ y = nI b) → Q (some (.int (nI 0))) s) : CtM g M_X10_isPlace [.ref x0, .int x, .int y] x0 s Q := by
  refine CtM.of (by decide +kernel) (Nat.le_of_ble_eq_true rfl) (v_X10_isPlace_0 (m_in32 (by decide) (by decide) (fun t _ h2 e => ⟨1, rfl, by decide, (fun z => absurd z (by decide)), fun _ => m_in32 (by decide) (by decide) (fun u _ h3 e2 => ⟨1, rfl, by decide, (fun z => absurd z (by decide)), fun _ => h1 t u (by omega) (by omega) e e2⟩) (fun z => ⟨0, rfl, by decide, fun _ => h0 (fun a b ha hb ea => z b (by omega) (by omega)), fun q => absurd rfl q⟩)⟩) (fun z => ⟨0, rfl, by decide, fun _ => h0 (fun a b ha hb ea => absurd ea (z a (by omega) (by omega))), fun q => absurd rfl q⟩)))
theorem m_spot {a b c : Nat} (hp : P (some (.int (nI (4 * (12 * a + b) + c))))) : CtP g M_X10_spot [.int (nI a), .int (nI b), .int (nI c)] P :=
  CtP.of (by decide +kernel) (Nat.le_of_ble_eq_true rfl) (v_X10_spot_0 hp)
theorem m_mark {a b c d : Int32} (hn : 2 ≤ s.n ∧ s.n ≤ 6) (h1 : ∀ t y i z, t < 10 → y < 12 → i < 4 → z < s.n → a = nI t → b = nI y → c = nI i → d = nI z → Q (some (.int (nI 1))) (MV.u_fr (MV.u_mk (MV.u_cd s 0) (va_up s.mk (4 * (12 * t + y) + i) (nI z))) 0))
    (hx : ∀ t y i, t < 10 → y < 12 → i < 4 → a = nI t → b = nI y → c = nI i → (∀ z, z < s.n → ¬ d = nI z) → Q (some (.int (nI 0))) (MV.u_cd s 1))
    (h0 : (∀ t y i, t < 10 → y < 12 → i < 4 → a = nI t → b = nI y → ¬ c = nI i) → Q (some (.int (nI 0))) (MV.u_cd s 0)) : CtM g M_X10_mark [.ref x0, .int a, .int b, .int c, .int d] x0 s Q := by
  refine CtM.of (by decide +kernel) (Nat.le_of_ble_eq_true rfl) (v_X10_mark_0 (m_isPlace (fun t y ht hy ea eb => ⟨1, rfl, by decide, (fun z => absurd z (by decide)), fun _ => m_in32 (by decide) (by decide) (fun i _ hi ec => ⟨1, rfl, by decide, fun _ => ?_, fun z => absurd z (by decide)⟩) (fun z => ⟨0, rfl, by decide, fun q => absurd rfl q, fun _ => h0 (fun t y i _ _ hi _ _ => z i (by omega) (by omega))⟩)⟩) (fun z => ⟨0, rfl, by decide, fun _ => h0 (fun t y i ht hy _ e1 e2 _ => z t y ht hy e1 e2), fun q => absurd rfl q⟩)))
  refine m_isState hn (fun z hz ed => ⟨1, rfl, by decide, (fun z => absurd z (by decide)), fun _ => ?_⟩) (fun q => ⟨0, rfl, by decide, fun _ => hx t y i ht hy (by omega) ea eb ec q, fun q => absurd rfl q⟩)
  rw [ea, eb, ec]
  exact m_spot ⟨_, rfl, by omega, by rw [ed]; exact h1 t y i z ht hy (by omega) hz ea eb ec ed⟩
theorem m_kind {a b : Int32} (h1 : ∀ t k, t < 10 → k < 4 → a = nI t → b = nI k → Q (some (.int (nI 1))) (MV.u_kd (MV.u_cd s 0) (va_up s.kd t k))) (h0 : (∀ t k, t < 10 → k < 4 → a = nI t → ¬ b = nI k) → Q (some (.int (nI 0))) (MV.u_cd s 0)) : CtM g M_X10_kind [.ref x0, .int a, .int b] x0 s Q :=
  CtM.of (by decide +kernel) (Nat.le_of_ble_eq_true rfl) (v_X10_kind_0 (m_in32 (by decide) (by decide) (fun t _ h2 e => ⟨1, rfl, by decide, (fun z => absurd z (by decide)), fun _ => m_in32 (by decide) (by decide) (fun u _ h3 e2 => ⟨1, rfl, by decide, fun _ => ⟨t, e, u, e2, by omega, h1 t u (by omega) (by omega) e e2⟩, (fun z => absurd z (by decide))⟩) (fun z => ⟨0, rfl, by decide, fun q => absurd rfl q, fun _ => h0 (fun a b ha hb ea => z b (by omega) (by omega))⟩)⟩) (fun z => ⟨0, rfl, by decide, fun _ => h0 (fun a b ha hb ea => absurd ea (z a (by omega) (by omega))), fun q => absurd rfl q⟩)))
theorem m_unit {a : Int32} (hs : s.sz ≤ 120) (h1 : ∀ u, 32 ≤ u → u ≤ 126 → a = nI u → s.sz < 120 → Q (some (.int (nI 1))) (MV.u_sz (MV.u_tx (MV.u_cd s 0) (va_up s.tx s.sz u)) (s.sz + 1))) (h2 : ∀ u, 32 ≤ u → u ≤ 126 → a = nI u → s.sz = 120 → Q (some (.int (nI 0))) (MV.u_cd s 0)) (h0 : (∀ u, 32 ≤ u → u ≤ 126 → ¬ a = nI u) → Q (some (.int (nI 0))) (MV.u_cd s 0)) : CtM g M_X10_unit [.ref x0, .int a] x0 s Q :=
  CtM.of (by decide +kernel) (Nat.le_of_ble_eq_true rfl) (v_X10_unit_0 (m_in32 (by decide) (by decide) (fun t h5 h6 e => ⟨1, rfl, by decide, (fun z => absurd z (by decide)), fun _ => ⟨⟨by omega, by decide⟩, fun q => ⟨t, e, by omega, h1 t h5 h6 e (by omega)⟩, fun q => h2 t h5 h6 e q⟩⟩) (fun z => ⟨0, rfl, by decide, fun _ => h0 z, fun q => absurd rfl q⟩)))
theorem m_least {a : Int32} (h1 : ∀ k, k ≤ 50 → a = nI k → Q (some (.int (nI 1))) (MV.u_fr (MV.u_lm (MV.u_cd s 0) k) 0)) (h0 : (∀ k, k ≤ 50 → ¬ a = nI k) → Q (some (.int (nI 0))) (MV.u_cd s 0)) : CtM g M_X10_least [.ref x0, .int a] x0 s Q :=
  CtM.of (by decide +kernel) (Nat.le_of_ble_eq_true rfl) (v_X10_least_0 (m_in32 (by decide) (by decide) (fun t _ h2 e => ⟨1, rfl, by decide, fun _ => ⟨t, e, h1 t h2 e⟩, fun z => absurd z (by decide)⟩) (fun z => ⟨0, rfl, by decide, fun q => absurd rfl q, fun _ => h0 (fun k hk => z k (by omega) hk)⟩)))
theorem m_isDigit {c : Nat} (hc : c < 2 ^ 31) (hp : P (some (.int (nI (if isD c = true then 1 else 0))))) : CtP g M_X10_isDigit [.int (nI c)] P := by
  refine CtP.of (by decide +kernel) (Nat.le_of_ble_eq_true rfl) (v_X10_isDigit_0 ?_)
  refine ⟨⟨hc, by decide⟩, fun q => ?_, fun q => ⟨⟨hc, by decide⟩, fun q2 => ?_, fun q2 => ?_⟩⟩
  · rw [if_neg (by simp [isD]; omega)] at hp; exact hp
  · rw [if_neg (by simp [isD]; omega)] at hp; exact hp
  · rw [if_pos (by simp [isD]; omega)] at hp; exact hp
theorem m_isLetter {c : Nat} (hc : c < 2 ^ 31) (hp : P (some (.int (nI (if isL c = true then 1 else 0))))) : CtP g M_X10_isLetter [.int (nI c)] P := by
  refine CtP.of (by decide +kernel) (Nat.le_of_ble_eq_true rfl) (v_X10_isLetter_0 ?_)
  have h0 : ¬ isL c = true → P (some (.int (nI 0))) := fun q => by rw [if_neg q] at hp; exact hp
  have h1 : isL c = true → P (some (.int (nI 1))) := fun q => by rw [if_pos q] at hp; exact hp
  refine ⟨⟨hc, by decide⟩, fun q => ⟨⟨hc, by decide⟩, fun q2 => h0 (by simp [isL]; omega), fun q2 => ⟨⟨hc, by decide⟩, fun q3 => h0 (by simp [isL]; omega), fun q3 => h1 (by simp [isL]; omega)⟩⟩, fun q => ⟨⟨hc, by decide⟩, fun q2 => h1 (by simp [isL]; omega), fun q2 => ⟨⟨hc, by decide⟩, fun q3 => h0 (by simp [isL]; omega), fun q3 => ⟨⟨hc, by decide⟩, fun q4 => h0 (by simp [isL]; omega), fun q4 => h1 (by simp [isL]; omega)⟩⟩⟩⟩
theorem m_isFraction {x y : Int64} (hp1 : ∀ a b, a ≤ b → 0 < b → b ≤ 1000 → x = lN a → y = lN b → P (some (.int (nI 1)))) (hp0 : (∀ a b, a ≤ b → 0 < b → b ≤ 1000 → x = lN a → ¬ y = lN b) → P (some (.int (nI 0)))) : CtP g M_X10_isFraction [.long x, .long y] P := by
  refine CtP.of (by decide +kernel) (Nat.le_of_ble_eq_true rfl) (v_X10_isFraction_0 (m_in64 (by decide) (by decide) (fun b hb1 hb2 eb => ⟨1, rfl, by decide, (fun z => absurd z (by decide)), fun _ => ?_⟩) (fun z => ⟨0, rfl, by decide, fun _ => hp0 (fun a b h1 h2 h3 e1 => z b (by omega) h3), fun q => absurd rfl q⟩)))
  rw [eb]
  refine m_in64 (by decide) (by omega) (fun a _ ha ea => ⟨1, rfl, by decide, (fun z => absurd z (by decide)), fun _ => hp1 a b ha (by omega) hb2 ea eb⟩) (fun z => ⟨0, rfl, by decide, fun _ => hp0 (fun a b' h1 h2 h3 e1 e2 => ?_), fun q => absurd rfl q⟩)
  have : b = b' := by
    have := eb.symm.trans e2
    exact (pk_lEQ (by omega) (by omega)).mp this
  exact z a (by omega) (by omega) e1
theorem m_start {a : Int32} {xa xb : Int64} (hn : 2 ≤ s.n ∧ s.n ≤ 6) (hp1 : ∀ t u v, t < s.n → u ≤ v → 0 < v → v ≤ 1000 → a = nI t → xa = lN u → xb = lN v → Q (some (.int (nI 1))) (MV.u_fr (MV.u_sb (MV.u_sa (MV.u_st (MV.u_cd s 0) 1) (va_up s.sa t u)) (va_up s.sb t v)) 0)) (hp0 : (∀ t u v, t < s.n → u ≤ v → 0 < v → v ≤ 1000 → a = nI t → xa = lN u → ¬ xb = lN v) → Q (some (.int (nI 0))) (MV.u_cd s 0)) : CtM g M_X10_start [.ref x0, .int a, .long xa, .long xb] x0 s Q := by
  refine CtM.of (by decide +kernel) (Nat.le_of_ble_eq_true rfl) (v_X10_start_0 (m_isState hn (fun t ht ea => ⟨1, rfl, by decide, (fun z => absurd z (by decide)), fun _ => m_isFraction (fun u v h1 h2 h3 e1 e2 => ⟨1, rfl, by decide, fun _ => ⟨t, ea, u, ?_, ?_, t, ea, v, ?_, ?_, hp1 t u v ht h1 h2 h3 ea e1 e2⟩, fun z => absurd z (by decide)⟩) (fun z => ⟨0, rfl, by decide, fun q => absurd rfl q, fun _ => hp0 (fun t u v _ h1 h2 h3 _ e1 => z u v h1 h2 h3 e1)⟩)⟩) (fun z => ⟨0, rfl, by decide, fun _ => hp0 (fun t u v ht _ _ _ ea => absurd ea (z t ht)), fun q => absurd rfl q⟩)))
  · rw [e1, lN_i]
  · have : s.n ≤ 6 := hn.2
    have : t < s.n := ht
    omega
  · rw [e2, lN_i]
  · have : s.n ≤ 6 := hn.2
    have : t < s.n := ht
    omega
end M1
