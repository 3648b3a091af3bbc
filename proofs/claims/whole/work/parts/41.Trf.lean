/-! what is foretold, as whole numbers over a lower part; Transfers -/
def prd (B : Nat → Nat) : Nat → Nat
  | 0 => 1
  | n + 1 => prd B n * B n
theorem prd_pos {B : Nat → Nat} : ∀ {n : Nat}, (∀ s, s < n → 0 < B s) → 0 < prd B n
  | 0, _ => Nat.one_pos
  | n + 1, h => Nat.mul_pos (prd_pos fun s hs => h s (by omega)) (h n (by omega))
theorem prd_dvd {B : Nat → Nat} {s : Nat} : ∀ {n : Nat}, s < n → B s ∣ prd B n
  | 0, h => absurd h (by omega)
  | n + 1, h => by
    by_cases q : s = n
    · subst q; exact Nat.dvd_mul_left _ _
    · exact Nat.dvd_trans (prd_dvd (n := n) (by omega)) (Nat.dvd_mul_right _ _)
theorem prd_le {B : Nat → Nat} {M : Nat} : ∀ {n : Nat}, (∀ s, s < n → B s ≤ M) → prd B n ≤ M ^ n
  | 0, _ => Nat.le_refl _
  | n + 1, h => by
    rw [Nat.pow_succ]
    exact Nat.mul_le_mul (prd_le fun s hs => h s (by omega)) (h n (by omega))
theorem prd_congr {B B' : Nat → Nat} : ∀ {n : Nat}, (∀ s, s < n → B s = B' s) → prd B n = prd B' n
  | 0, _ => rfl
  | n + 1, h => by
    show prd B n * B n = prd B' n * B' n
    rw [prd_congr (fun s hs => h s (by omega)), h n (by omega)]
abbrev eqf (n : Nat) (p : Nat → Nat) (W : Nat) (P : Nat → Nat) (D : Nat) : Prop := ∀ s, s < n → p s * D = P s * W
theorem eqf_sm {p P : Nat → Nat} {W D : Nat} : ∀ {n : Nat}, eqf n p W P D → sm p n * D = sm P n * W
  | 0, _ => by show 0 * D = 0 * W; rw [Nat.zero_mul, Nat.zero_mul]
  | n + 1, h => by
    show (sm p n + p n) * D = (sm P n + P n) * W
    rw [Nat.add_mul, Nat.add_mul, eqf_sm (fun s hs => h s (by omega)), h n (by omega)]
abbrev fv (n : Nat) (P : Nat → Nat) (D : Nat) : Prop := 0 < D ∧ sm P n ≤ 6 * D
theorem eqf_le {n W D : Nat} {p P : Nat → Nat} (h : eqf n p W P D) (hv : fv n P D) : sm p n ≤ 6 * W := by
  have h1 := eqf_sm h
  have h2 : sm P n * W ≤ 6 * D * W := Nat.mul_le_mul_right _ hv.2
  have h3 : sm p n * D ≤ 6 * W * D := by
    have : 6 * D * W = 6 * W * D := by grind
    omega
  exact Nat.le_of_mul_le_mul_right h3 hv.1
theorem sm_add {p q : Nat → Nat} : ∀ {n : Nat}, sm (fun s => p s + q s) n = sm p n + sm q n
  | 0 => rfl
  | n + 1 => by
    show sm (fun s => p s + q s) n + (p n + q n) = (sm p n + p n) + (sm q n + q n)
    rw [sm_add]; omega
theorem sm_mul {p : Nat → Nat} {b : Nat} : ∀ {n : Nat}, sm (fun s => p s * b) n = sm p n * b
  | 0 => (Nat.zero_mul b).symm
  | n + 1 => by
    show sm (fun s => p s * b) n + p n * b = (sm p n + p n) * b
    rw [sm_mul, Nat.add_mul]
theorem sm_one {f c : Nat} : ∀ {n : Nat}, sm (fun s => if s = f then c else 0) n = if f < n then c else 0
  | 0 => by rw [if_neg (by omega)]; rfl
  | n + 1 => by
    show sm (fun s => if s = f then c else 0) n + (if n = f then c else 0) = _
    rw [sm_one]
    by_cases q : f < n
    · rw [if_pos q, if_neg (by omega), if_pos (by omega)]; rfl
    · rw [if_neg q]
      by_cases z : n = f
      · rw [if_pos z, if_pos (by omega), Nat.zero_add]
      · rw [if_neg z, if_neg (by omega)]
theorem sm_trf {f t a b n : Nat} {p : Nat → Nat} (hf : f < n) (ht : t < n) (hft : f ≠ t) (hab : a ≤ b) : sm (trf f t a b p) n = sm p n * b := by
  have key : sm (fun s => trf f t a b p s + (if s = f then p f * a else 0)) n = sm (fun s => p s * b + (if s = t then p f * a else 0)) n := by
    apply sm_congr
    intro s hs
    unfold trf
    by_cases y : s = f
    · subst y
      rw [if_pos rfl, if_pos rfl, if_neg hft, Nat.add_zero, ← Nat.mul_add, Nat.sub_add_cancel hab]
    · rw [if_neg y, if_neg y]
      by_cases z : s = t
      · subst z; rw [if_pos rfl, if_pos rfl, Nat.add_zero]
      · rw [if_neg z, if_neg z]
  rw [sm_add, sm_add, sm_one, sm_one, if_pos hf, if_pos ht, sm_mul] at key
  omega
theorem trf_scale {f t a b k s : Nat} {p : Nat → Nat} : trf f t a b (fun s => p s * k) s = trf f t a b p s * k := by
  unfold trf
  by_cases y : s = f
  · rw [if_pos y, if_pos y]; grind
  · rw [if_neg y, if_neg y]
    by_cases z : s = t
    · rw [if_pos z, if_pos z]; grind
    · rw [if_neg z, if_neg z]; grind
/-- the same part, said by other numbers -/
theorem trf_same {f t a b a' b' s : Nat} {p : Nat → Nat} (hab : a ≤ b) (hab' : a' ≤ b') (h : a * b' = a' * b) : trf f t a b p s * b' = trf f t a' b' p s * b := by
  unfold trf
  by_cases y : s = f
  · rw [if_pos y, if_pos y]
    have : (b - a) * b' = (b' - a') * b := by
      rw [Nat.sub_mul, Nat.sub_mul, h, Nat.mul_comm b b']
    rw [Nat.mul_assoc, Nat.mul_assoc, this]
  · rw [if_neg y, if_neg y]
    by_cases z : s = t
    · rw [if_pos z, if_pos z]; grind
    · rw [if_neg z, if_neg z]; grind
theorem trf_congr {f t a b n : Nat} {p q : Nat → Nat} (hf : f < n) (ht : t < n) (h : ∀ s, s < n → p s = q s) : ∀ s, s < n → trf f t a b p s = trf f t a b q s := by
  intro s hs
  unfold trf
  rw [h f hf, h t ht, h s hs]
theorem eqf_trf {n W D f t a b a' b' c : Nat} {p p' P : Nat → Nat} (hf : f < n) (ht : t < n) (hab : a ≤ b) (hab' : a' ≤ b' ∧ 0 < b') (h : a * b' = a' * b) (he : eqf n p W P D) (hp : ∀ s, s < n → p' s * b' = c * trf f t a' b' p s) : eqf n p' (W * c) (trf f t a b P) (D * b) := by
  intro s hs
  have h1 := hp s hs
  have h2 : trf f t a' b' p s * D = trf f t a' b' P s * W := by
    rw [← trf_scale, ← trf_scale]
    exact trf_congr hf ht he s hs
  have h3 := trf_same (f := f) (t := t) (s := s) (p := P) hab hab'.1 h
  have h4 : p' s * (D * b) * b' = trf f t a b P s * (W * c) * b' := by
    have e1 : p' s * (D * b) * b' = (p' s * b') * D * b := by grind
    have e2 : c * trf f t a' b' p s * D * b = c * b * (trf f t a' b' p s * D) := by grind
    have e3 : trf f t a b P s * (W * c) * b' = (trf f t a b P s * b') * W * c := by grind
    rw [e1, h1, e2, h2, e3, h3]
    grind
  exact Nat.eq_of_mul_eq_mul_right hab'.2 h4
def trP (F T A B : Nat → Nat) (y : Nat) (P : Nat → Nat) : Nat → (Nat → Nat)
  | 0 => P
  | i + 1 => trf (F (y * 12 + i)) (T (y * 12 + i)) (A (y * 12 + i)) (B (y * 12 + i)) (trP F T A B y P i)
def trD (B : Nat → Nat) (y D : Nat) : Nat → Nat
  | 0 => D
  | i + 1 => trD B y D i * B (y * 12 + i)
abbrev trOK (n : Nat) (F T A B : Nat → Nat) (y k : Nat) : Prop := ∀ i, i < k → F (y * 12 + i) < n ∧ T (y * 12 + i) < n ∧ F (y * 12 + i) ≠ T (y * 12 + i) ∧ A (y * 12 + i) ≤ B (y * 12 + i) ∧ 0 < B (y * 12 + i) ∧ B (y * 12 + i) ≤ 1000
theorem tr_fv {n y D : Nat} {F T A B P : Nat → Nat} (hv : fv n P D) : ∀ {k : Nat}, trOK n F T A B y k → fv n (trP F T A B y P k) (trD B y D k)
  | 0, _ => hv
  | k + 1, h => by
    obtain ⟨h1, h2, h3, h4, h5, h6⟩ := h k (by omega)
    have ih := tr_fv hv (k := k) (fun i hi => h i (by omega))
    refine ⟨Nat.mul_pos ih.1 h5, ?_⟩
    show sm (trf _ _ _ _ _) n ≤ 6 * (trD B y D k * B (y * 12 + k))
    rw [sm_trf h1 h2 h3 h4]
    have := Nat.mul_le_mul_right (B (y * 12 + k)) ih.2
    rw [Nat.mul_assoc] at this
    exact this
theorem trD_le {y D : Nat} {B : Nat → Nat} : ∀ {k : Nat}, (∀ i, i < k → B (y * 12 + i) ≤ 1000) → trD B y D k ≤ D * 1000 ^ k
  | 0, _ => by rw [Nat.pow_zero, Nat.mul_one]; exact Nat.le_refl _
  | k + 1, h => by
    rw [Nat.pow_succ, ← Nat.mul_assoc]
    exact Nat.mul_le_mul (trD_le fun i hi => h i (by omega)) (h k (by omega))
abbrev TrAt (h : xHp) (t : Nat) (N F T A B : Nat → Nat) : Prop := h t = some (xo 9 [.ref (t + 1), .ref (t + 2), .ref (t + 3), .ref (t + 4), .ref (t + 5)]) ∧ h (t + 1) = some (xna 12 N) ∧ h (t + 2) = some (xna 144 F) ∧ h (t + 3) = some (xna 144 T) ∧ h (t + 4) = some (xna 144 A) ∧ h (t + 5) = some (xna 144 B)
theorem TrAt.of {h h' : xHp} {t lo sz : Nat} {N F T A B : Nat → Nat} (k : TrAt h t N F T A B) (o : Off lo sz h h') (q : t + 6 ≤ lo ∨ lo + sz ≤ t) : TrAt h' t N F T A B := by
  obtain ⟨k0, k1, k2, k3, k4, k5⟩ := k
  exact ⟨(o t (by omega)).trans k0, (o (t + 1) (by omega)).trans k1, (o (t + 2) (by omega)).trans k2, (o (t + 3) (by omega)).trans k3, (o (t + 4) (by omega)).trans k4, (o (t + 5) (by omega)).trans k5⟩
section TRF
variable {g : xG} {post : xPost} {h : xHp} {nx : Nat}
theorem c_TrInit (t : Nat) (hnx : t + 1 = nx) (h0 : h t = some (xo 9 [.null, .null, .null, .null, .null])) (hp : ∀ h', TrAt h' t (fun _ => 0) (fun _ => 0) (fun _ => 0) (fun _ => 0) (fun _ => 0) → Off t 6 h h' → post none h' (t + 6)) : Ct g M_X8_init [.ref t] h nx post := by
  subst hnx
  refine Ct.of (by decide +kernel) (Nat.le_of_ble_eq_true rfl) (v_X8_init_0 ⟨h0, by omega, by omega, by omega, by omega, by omega, ?_⟩)
  refine hp _ ⟨xup_s _ _ _, ?_, ?_, ?_, ?_, ?_⟩ ?_
  · exact (xup_n (by omega)).trans ((xup_n (by omega)).trans ((xup_n (by omega)).trans ((xup_n (by omega)).trans ((xup_n (by omega)).trans ((xup_n (by omega)).trans ((xup_n (by omega)).trans ((xup_n (by omega)).trans ((xup_n (by omega)).trans (xup_s _ _ _)))))))))
  · exact (xup_n (by omega)).trans ((xup_n (by omega)).trans ((xup_n (by omega)).trans ((xup_n (by omega)).trans ((xup_n (by omega)).trans ((xup_n (by omega)).trans ((xup_n (by omega)).trans (xup_s _ _ _)))))))
  · exact (xup_n (by omega)).trans ((xup_n (by omega)).trans ((xup_n (by omega)).trans ((xup_n (by omega)).trans ((xup_n (by omega)).trans (xup_s _ _ _)))))
  · exact (xup_n (by omega)).trans ((xup_n (by omega)).trans ((xup_n (by omega)).trans (xup_s _ _ _)))
  · exact (xup_n (by omega)).trans (xup_s _ _ _)
  · exact (((((((((Off.rf.up (by omega) (by omega)).up (by omega) (by omega)).up (by omega) (by omega)).up (by omega) (by omega)).up (by omega) (by omega)).up (by omega) (by omega)).up (by omega) (by omega)).up (by omega) (by omega)).up (by omega) (by omega)).up (by omega) (by omega)
theorem c_trAdd {t y f to a b : Nat} {N F T A B : Nat → Nat} (hT : TrAt h t N F T A B) (hy : y < 12) (hN : N y ≤ 12) (hab : a ≤ b ∧ 0 < b ∧ b ≤ 1000)
    (hp1 : N y < 12 → ∀ h', TrAt h' t (va_up N y (N y + 1)) (va_up F (y * 12 + N y) f) (va_up T (y * 12 + N y) to) (va_up A (y * 12 + N y) (a / Nat.gcd a b)) (va_up B (y * 12 + N y) (b / Nat.gcd a b)) → Off t 6 h h' → post (some (.int (nI 1))) h' nx)
    (hp0 : N y = 12 → post (some (.int (nI 0))) h nx) : Ct g M_X8_add [.ref t, .int (nI y), .int (nI f), .int (nI to), .int (nI a), .int (nI b)] h nx post := by
  obtain ⟨k0, k1, k2, k3, k4, k5⟩ := hT
  have e0 : smp a b (nI 0) = a / Nat.gcd a b := if_pos rfl
  have e1 : smp a b (nI 1) = b / Nat.gcd a b := by
    unfold smp
    rw [if_neg (by decide), if_pos rfl]
  refine Ct.of (by decide +kernel) (Nat.le_of_ble_eq_true rfl) (v_X8_add_0 ⟨_, _, _, _, _, k0, _, _, k1, by omega, by decide, ⟨by omega, by decide⟩, fun q => ⟨by omega, by decide, _, _, k2, by omega, by decide, _, _, k3, by omega, by omega, by decide, by omega, by omega, c_small (by omega) ⟨hab.2.1, by omega⟩ ⟨_, rfl, ?_⟩⟩, fun q => hp0 (by omega)⟩)
  rw [e0]
  refine ⟨_, _, (xup_n (by omega)).trans ((xup_n (by omega)).trans k4), _, lN_i _, by omega, by decide, _, _, _, _, _, (xup_n (by omega)).trans ((xup_n (by omega)).trans k0), by omega, by omega, c_small (by omega) ⟨hab.2.1, by omega⟩ ⟨_, rfl, ?_⟩⟩
  rw [e1]
  refine ⟨_, _, (xup_n (by omega)).trans ((xup_n (by omega)).trans ((xup_n (by omega)).trans k5)), _, lN_i _, by omega, by decide, _, _, _, _, _, (xup_n (by omega)).trans ((xup_n (by omega)).trans ((xup_n (by omega)).trans k0)), _, _, (xup_n (by omega)).trans ((xup_n (by omega)).trans ((xup_n (by omega)).trans k1)), by omega, by omega, by decide, by omega, by decide, ?_⟩
  refine hp1 q _ ⟨?_, xup_s _ _ _, ?_, ?_, ?_, ?_⟩ ?_
  · exact (xup_n (by omega)).trans ((xup_n (by omega)).trans ((xup_n (by omega)).trans ((xup_n (by omega)).trans ((xup_n (by omega)).trans k0))))
  · exact (xup_n (by omega)).trans ((xup_n (by omega)).trans ((xup_n (by omega)).trans ((xup_n (by omega)).trans (xup_s _ _ _))))
  · exact (xup_n (by omega)).trans ((xup_n (by omega)).trans ((xup_n (by omega)).trans (xup_s _ _ _)))
  · exact (xup_n (by omega)).trans ((xup_n (by omega)).trans (xup_s _ _ _))
  · exact (xup_n (by omega)).trans (xup_s _ _ _)
  · exact ((((Off.rf.up (by omega) (by omega)).up (by omega) (by omega)).up (by omega) (by omega)).up (by omega) (by omega)).up (by omega) (by omega)
theorem c_applyTo {t r n W y K D : Nat} {p e P N F T A B A' B' : Nat → Nat} (hR : RowAt h r n p W e) (hT : TrAt h t N F T A' B') (hd : t + 6 ≤ r) (hy : y < 12) (hN : N y ≤ 12) (hok : trOK n F T A B y (N y)) (hred : ∀ i, i < N y → A' (y * 12 + i) ≤ B' (y * 12 + i) ∧ 0 < B' (y * 12 + i) ∧ B' (y * 12 + i) ≤ 1000 ∧ A (y * 12 + i) * B' (y * 12 + i) = A' (y * 12 + i) * B (y * 12 + i)) (he : eqf n p (pw e 168) P D) (hv : fv n P D) (hK : pw e 168 ≤ K) (hK2 : K * 1000 ^ 12 * 6000 < 1000000000 ^ 112)
    (hp : ∀ h' p' e', RowAt h' r n p' W e' → eqf n p' (pw e' 168) (trP F T A B y P (N y)) (trD B y D (N y)) → pw e' 168 ≤ K * 1000 ^ (N y) → Off r (5 + 2 * n) h h' → post none h' nx) : Ct g M_X8_applyTo [.ref t, .ref r, .int (nI y)] h nx post := by
  have main : ∀ (d i : Nat) (p e : Nat → Nat) (h' : xHp), N y - i = d → i ≤ N y → RowAt h' r n p W e → eqf n p (pw e 168) (trP F T A B y P i) (trD B y D i) → pw e 168 ≤ K * 1000 ^ i → Off r (5 + 2 * n) h h' → Blk g M_X8_applyTo post 2 [(0, .ref t), (1, .ref r), (2, .int (nI y)), (3, .int (nI i))] [] h' nx 0 0 := by
    intro d
    induction d with
    | zero =>
      intro i p e h' hm hi hR' he' hk hO
      obtain ⟨k0, k1, k2, k3, k4, k5⟩ := hT.of hO (by omega)
      have hin : i = N y := by omega
      subst hin
      exact v_X8_applyTo_2 ⟨_, _, _, _, _, k0, _, _, k1, by omega, by decide, ⟨by omega, by omega⟩, fun _ => hp h' p e hR' he' hk hO, fun q => absurd q (by omega)⟩
    | succ d ih =>
      intro i p e h' hm hi hR' he' hk hO
      obtain ⟨k0, k1, k2, k3, k4, k5⟩ := hT.of hO (by omega)
      obtain ⟨o1, o2, o3, o4, o5, o6⟩ := hok i (by omega)
      obtain ⟨r1, r2, r3, r4⟩ := hred i (by omega)
      have hv' := tr_fv hv (k := i) (fun j hj => hok j (by omega))
      have hle := eqf_le he' hv'
      have hpw : K * 1000 ^ i ≤ K * 1000 ^ 12 := Nat.mul_le_mul_left _ (Nat.pow_le_pow_right (by decide) (by omega))
      refine v_X8_applyTo_2 ⟨_, _, _, _, _, k0, _, _, k1, by omega, by decide, ⟨by omega, by omega⟩, fun q => absurd q (by omega), fun _ => ⟨_, _, k2, by omega, by decide, _, _, k3, by omega, by decide, _, _, k4, by omega, by decide, _, _, k5, by omega, by decide, _, _, _, hR'.2.1, c_transfer hR' o1 o2 o3 ⟨r1, r2, r3⟩ (fun s hs => ?_) (fun h1 p1 e1 c hR1 hc hE1 hp1 hO1 => ⟨rfl, ?_⟩)⟩⟩
      · have b1 : sm (trf (F (y * 12 + i)) (T (y * 12 + i)) (A' (y * 12 + i)) (B' (y * 12 + i)) p) n = sm p n * B' (y * 12 + i) := sm_trf o1 o2 o3 r1
        have b2 := sm_le (p := trf (F (y * 12 + i)) (T (y * 12 + i)) (A' (y * 12 + i)) (B' (y * 12 + i)) p) hs
        have b3 := sm_le (p := p) hs
        have b4 : sm p n * B' (y * 12 + i) ≤ 6 * (K * 1000 ^ 12) * 1000 := Nat.mul_le_mul (by omega) r3
        have b5 : p s * B' (y * 12 + i) ≤ sm p n * B' (y * 12 + i) := Nat.mul_le_mul_right _ b3
        constructor
        · omega
        · omega
      · refine ih (i + 1) p1 e1 h1 (by omega) (by omega) hR1 ?_ ?_ (hO.tr hO1)
        · rw [hE1]
          exact eqf_trf o1 o2 o4 ⟨r1, r2⟩ r4 he' hp1
        · rw [hE1, Nat.pow_succ, ← Nat.mul_assoc]
          exact Nat.mul_le_mul hk (by omega)
  exact Ct.of (by decide +kernel) (Nat.le_of_ble_eq_true rfl) (v_X8_applyTo_0 (main (N y) 0 p e h rfl (Nat.zero_le _) hR he (by rw [Nat.pow_zero, Nat.mul_one]; exact hK) Off.rf))
end TRF
