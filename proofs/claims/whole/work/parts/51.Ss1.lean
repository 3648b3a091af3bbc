/-! StateShares: small tests; renewing; what stands -/
theorem rng {x : Int32} {N : Nat} (hN : N < 2 ^ 31) {A B : Prop} (h1 : ∀ t, t < N → x = nI t → B) (h0 : (∀ t, t < N → ¬ x = nI t) → A) : (x < 0 → A) ∧ (¬ x < 0 → ((nI N ≤ x → A) ∧ (¬ nI N ≤ x → B))) := by
  refine ⟨fun q => h0 (fun t ht e => ?_), fun q => ⟨fun q2 => h0 (fun t ht e => ?_), fun q2 => ?_⟩⟩
  · rw [e] at q; exact nI_pos (by omega) q
  · rw [e] at q2; exact nI_ge ht hN q2
  · rcases pk_ix x hN with z | z | ⟨j, hj, hx⟩
    · exact absurd z q
    · exact absurd z q2
    · exact h1 j hj hx
theorem lrng {x : Int64} : x < lN 0 ∨ ∃ k : Nat, k < 2 ^ 63 ∧ x = lN k := by
  by_cases q : x < 0
  · exact Or.inl q
  · exact Or.inr (pk_lOf q)
theorem mvs_congr {n c t : Nat} {p p' S S' P P' : Nat → Nat} (hp : ∀ s, s < n → p s = p' s) (hS : ∀ s, s < n → S s = S' s) (hP : ∀ f, f < n → P (f * 6 + t) = P' (f * 6 + t)) : ∀ i, i ≤ n → mvs p S P c t i = mvs p' S' P' c t i
  | 0, _ => rfl
  | i + 1, hi => by
    show mvs p S P c t i + p i * (c / S i * P (i * 6 + t)) = mvs p' S' P' c t i + p' i * (c / S' i * P' (i * 6 + t))
    rw [mvs_congr hp hS hP i (by omega), hp i (by omega), hS i (by omega), hP i (by omega)]
theorem trP_congr {n y : Nat} {F T A B p p' : Nat → Nat} (hp : ∀ s, s < n → p s = p' s) : ∀ k, trOK n F T A B y k → ∀ s, s < n → trP F T A B y p k s = trP F T A B y p' k s
  | 0, _, s, hs => hp s hs
  | k + 1, h, s, hs => by
    obtain ⟨h1, h2, _⟩ := h k (by omega)
    exact trf_congr h1 h2 (trP_congr hp k (fun i hi => h i (by omega))) s hs
theorem fcs_congr {n : Nat} {A B : Nat → Nat} {w v : Tr} {P S P' S' : Nat → Nat} (hw : trsOK n w) (hv : trsOK n v) (hP : ∀ f t, f < n → t < n → P (f * 6 + t) = P' (f * 6 + t)) (hS : ∀ f, f < n → S f = S' f) : ∀ y, y < 12 → (fcs n A B w v P S y).2 = (fcs n A B w v P' S' y).2 ∧ ∀ s, s < n → (fcs n A B w v P S y).1 s = (fcs n A B w v P' S' y).1 s
  | 0, _ => ⟨rfl, fun _ _ => rfl⟩
  | y + 1, hy => by
    obtain ⟨i1, i2⟩ := fcs_congr hw hv hP hS y (by omega)
    have eQ : prd S n = prd S' n := prd_congr hS
    constructor
    · show trD _ y (trD _ y _ _ * prd S n) _ = trD _ y (trD _ y _ _ * prd S' n) _
      rw [i1, eQ]
    · intro s hs
      refine trP_congr (fun t ht => ?_) _ (hv y (by omega)).2 s hs
      rw [eQ]
      exact mvs_congr (trP_congr i2 _ (hw y (by omega)).2) hS (fun f hf => hP f t hf ht) n (Nat.le_refl _)
theorem lng_congr {n D : Nat} {P P' : Nat → Nat} (h : ∀ s, s < n → P s = P' s) (k : lng n P D) : lng n P' D := by
  obtain ⟨s, hs, u, l, h1, h2⟩ := k
  rw [h s hs] at h1
  exact lng_mk hs h1 h2
theorem rowOK_congr {n y D : Nat} {p : Nat → Nat → Nat} {W : Nat → Nat} {e : Nat → Nat → Nat} {ku kl P P' : Nat → Nat} (h : ∀ s, s < n → P s = P' s) (k : rowOK n p W e ku kl y P D) : rowOK n p W e ku kl y P' D := by
  obtain ⟨a, b, c, d⟩ := k
  exact ⟨a, fun s hs => by rw [← h s hs]; exact b s hs, c, fun s hs => by rw [← h s hs]; exact d s hs⟩
theorem FcI_congr {n kn cu : Nat} {A B : Nat → Nat} {wk ev : Tr} {P S P' S' : Nat → Nat} {p : Nat → Nat → Nat} {W : Nat → Nat} {e : Nat → Nat → Nat} {ku kl : Nat → Nat} (hw : trsOK n wk) (hv : trsOK n ev) (hP : ∀ f t, f < n → t < n → P (f * 6 + t) = P' (f * 6 + t)) (hS : ∀ f, f < n → S f = S' f) (k : FcI n A B wk ev P S kn cu p W e ku kl) : FcI n A B wk ev P' S' kn cu p W e ku kl := by
  obtain ⟨k1, k2, k3⟩ := k
  refine ⟨k1, fun y hy => ?_, ?_⟩
  · obtain ⟨c1, c2⟩ := fcs_congr (A := A) (B := B) hw hv hP hS y (by omega)
    have := rowOK_congr c2 (k2 y hy)
    rw [c1] at this
    exact this
  · rcases k3 with z | ⟨z1, z2, z3⟩
    · exact Or.inl z
    · obtain ⟨c1, c2⟩ := fcs_congr (A := A) (B := B) hw hv hP hS cu z2
      have := lng_congr c2 z3
      rw [c1] at this
      exact Or.inr ⟨z1, z2, this⟩
/-- counts, totals, groups, shares as they follow from grades -/
def aC (gr : Nat → Option Nat) (i : Nat) : Nat := ct gr (i / 6) (i % 6) 110
def aT (gr : Nat → Option Nat) (s : Nat) : Nat := tot gr s 110
def aG (gr : Nat → Option Nat) (lm n s : Nat) : Nat := gF (aT gr) lm n s
def aP (gr : Nat → Option Nat) (lm n i : Nat) : Nat := shT (aC gr) (aG gr lm n) n (i / 6) (i % 6)
def aB (gr : Nat → Option Nat) (lm n f : Nat) : Nat := max 1 (bt (aC gr) (aG gr lm n) n f)
abbrev curS (n : Nat) (gr : Nat → Option Nat) (lm : Nat) (C T G P B : Nat → Nat) : Prop := (∀ i, i < 36 → C i = aC gr i) ∧ (∀ s, s < n → T s = aT gr s) ∧ (∀ s, s < n → G s = aG gr lm n s) ∧ (∀ a b, a < n → b < n → P (a * 6 + b) = aP gr lm n (a * 6 + b)) ∧ ∀ a, a < n → B a = aB gr lm n a
theorem gsS_congr {T T' : Nat → Nat} {lm : Nat} : ∀ {s : Nat}, (∀ i, i < s → T i = T' i) → gsS T lm s = gsS T' lm s
  | 0, _ => rfl
  | s + 1, h => by rw [gsS_s, gsS_s, gsS_congr (fun i hi => h i (by omega)), h s (by omega)]
theorem gF_congr {T T' : Nat → Nat} {lm n s : Nat} (hs : s ≤ n) (h : ∀ i, i < n → T i = T' i) : gF T lm n s = gF T' lm n s := by
  unfold gF
  rw [gsS_congr h, gsS_congr (s := s) (fun i hi => h i (by omega))]
theorem cur_of {n lm : Nat} {gr : Nat → Option Nat} {C T G P B : Nat → Nat} (hn : n ≤ 6) (h1 : ∀ i, i < 36 → C i = ct gr (i / 6) (i % 6) 110) (h2 : ∀ a, a < n → T a = tot gr a 110) (h3 : ∀ s, s < n → G s = gF T lm n s) (h4 : ∀ a b, a < n → b < n → P (a * 6 + b) = shT C G n a b) (h5 : ∀ a, a < n → B a = max 1 (bt C G n a)) : curS n gr lm C T G P B := by
  have g3 : ∀ s, s < n → G s = aG gr lm n s := fun s hs => (h3 s hs).trans (gF_congr (by omega) h2)
  refine ⟨h1, h2, g3, fun a b ha hb => ?_, fun a ha => ?_⟩
  · have e1 : (a * 6 + b) / 6 = a := by omega
    have e2 : (a * 6 + b) % 6 = b := by omega
    unfold aP
    rw [e1, e2, h4 a b ha hb]
    exact shT_congr hn ha h1 g3
  · rw [h5 a ha]
    unfold aB
    rw [bt_congr (C' := aC gr) hn ha h1 g3]
theorem aB_ok {n lm f : Nat} {gr : Nat → Option Nat} (hn : n ≤ 6) : 0 < aB gr lm n f ∧ aB gr lm n f ≤ 110 := by
  unfold aB
  have h1 := bt_le (C := aC gr) (G := aG gr lm n) (n := n) (a := f) hn
  have h2 := ct_sum (gr := gr) 110
  have h3 : sm (aC gr) 36 ≤ 110 := h2
  omega
theorem cur_mov {n lm : Nat} {gr : Nat → Option Nat} {C T G P B : Nat → Nat} (hn : n ≤ 6) (h : curS n gr lm C T G P B) : movOK n P B := by
  obtain ⟨h1, h2, h3, h4, h5⟩ := h
  have hs : ∀ f, f < n → B f = sm (fun t => P (f * 6 + t)) n := by
    intro f hf
    rw [h5 f hf]
    unfold aB
    rw [← shT_sum hf]
    refine sm_congr fun b hb => ?_
    rw [h4 f b hf hb]
    unfold aP
    have e1 : (f * 6 + b) / 6 = f := by omega
    have e2 : (f * 6 + b) % 6 = b := by omega
    rw [e1, e2]
  refine ⟨fun f hf => ?_, hs⟩
  have hb := aB_ok (lm := lm) (f := f) (gr := gr) hn
  rw [h5 f hf]
  refine ⟨hb.1, hb.2, fun t ht => ?_⟩
  rw [← h5 f hf, hs f hf]
  exact sm_le (p := fun t => P (f * 6 + t)) ht
section SS1
variable {g : xG} {post : xPost} {h : xHp} {nx : Nat}
theorem c_isThing {x : Int32} (hp1 : ∀ t, t < 10 → x = nI t → post (some (.int (nI 1))) h nx) (hp0 : (∀ t, t < 10 → ¬ x = nI t) → post (some (.int (nI 0))) h nx) : Ct g M_X9_isThing [.int x] h nx post :=
  Ct.of (by decide +kernel) (Nat.le_of_ble_eq_true rfl) (v_X9_isThing_0 (rng (by decide) hp1 hp0))
theorem c_isYear {x : Int32} (hp1 : ∀ t, t < 12 → x = nI t → post (some (.int (nI 1))) h nx) (hp0 : (∀ t, t < 12 → ¬ x = nI t) → post (some (.int (nI 0))) h nx) : Ct g M_X9_isYear [.int x] h nx post :=
  Ct.of (by decide +kernel) (Nat.le_of_ble_eq_true rfl) (v_X9_isYear_0 (rng (by decide) hp1 hp0))
theorem c_isPerson {x : Int32} (hp1 : ∀ t, t < 4 → x = nI t → post (some (.int (nI 1))) h nx) (hp0 : (∀ t, t < 4 → ¬ x = nI t) → post (some (.int (nI 0))) h nx) : Ct g M_X9_isPerson [.int x] h nx post :=
  Ct.of (by decide +kernel) (Nat.le_of_ble_eq_true rfl) (v_X9_isPerson_0 (rng (by decide) hp1 hp0))
abbrev ssO (S n old : Nat) : xE := xo 10 [.int (nI n), .ref (S + 1), .ref (S + 17), .ref (S + 22), .ref (S + 28), .ref (S + 34), .ref (S + 40), .int (nI old)]
theorem c_isState {S n old : Nat} {x : Int32} (hO : h S = some (ssO S n old)) (hn : n ≤ 6) (hp1 : ∀ t, t < n → x = nI t → post (some (.int (nI 1))) h nx) (hp0 : (∀ t, t < n → ¬ x = nI t) → post (some (.int (nI 0))) h nx) : Ct g M_X9_isState [.ref S, .int x] h nx post := by
  obtain ⟨a, b⟩ := rng (x := x) (N := n) (by omega) hp1 hp0
  exact Ct.of (by decide +kernel) (Nat.le_of_ble_eq_true rfl) (v_X9_isState_0 ⟨a, fun q => ⟨_, _, _, _, _, _, _, _, hO, b q⟩⟩)
theorem c_isFraction {x y : Int64} (hp1 : ∀ a b, a ≤ b → 0 < b → b ≤ 1000 → x = lN a → y = lN b → post (some (.int (nI 1))) h nx) (hp0 : (∀ a b, a ≤ b → 0 < b → b ≤ 1000 → x = lN a → ¬ y = lN b) → post (some (.int (nI 0))) h nx) : Ct g M_X9_isFraction [.long x, .long y] h nx post := by
  refine Ct.of (by decide +kernel) (Nat.le_of_ble_eq_true rfl) (v_X9_isFraction_0 ⟨fun q => hp0 (fun a b h1 h2 h3 e1 e2 => ?_), fun q => ⟨fun q2 => hp0 (fun a b h1 h2 h3 e1 e2 => ?_), fun q2 => ⟨fun q3 => hp0 (fun a b h1 h2 h3 e1 e2 => ?_), fun q3 => ⟨fun q4 => hp0 (fun a b h1 h2 h3 e1 e2 => ?_), fun q4 => ?_⟩⟩⟩⟩)
  · rw [e1] at q
    have := (pk_lLT (a := a) (b := 0) (by omega) (by decide)).mp q
    omega
  · rw [e1, e2] at q2
    have := (pk_lLT (by omega) (by omega)).mp q2
    omega
  · rw [e2] at q3
    have := (pk_lLE (by omega) (by decide)).mp q3
    omega
  · rw [e2] at q4
    have := (pk_lLT (by decide) (by omega)).mp q4
    omega
  · rcases lrng (x := x) with z | ⟨a, ha, rfl⟩
    · exact absurd z q
    · rcases lrng (x := y) with z | ⟨b, hb, rfl⟩
      · exact absurd (Int64.le_of_lt z) q3
      · have b1 : ¬ b < a := fun z => q2 ((pk_lLT hb ha).mpr z)
        have b2 : ¬ b ≤ 0 := fun z => q3 ((pk_lLE hb (by decide)).mpr z)
        have b3 : ¬ 1000 < b := fun z => q4 ((pk_lLT (by decide) hb).mpr z)
        exact hp1 a b (by omega) (by omega) (by omega) rfl rfl
end SS1
