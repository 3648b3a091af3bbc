/-! Row: the parts of all states over one lower part -/
def RowAt (h : xHp) (r n : Nat) (p : Nat → Nat) (W : Nat) (e : Nat → Nat) : Prop :=
  (2 ≤ n ∧ n ≤ 6) ∧ h r = some (xo 6 [.ref (r + 1), .ref (r + 2 + 2 * n), .ref (r + 4 + 2 * n)]) ∧ (∃ F : Nat → Option Nat, h (r + 1) = some (xra 4 n F) ∧ ∀ s, s < n → F s = some (r + 2 + 2 * s)) ∧ (∀ s, s < n → BigAt h (r + 2 + 2 * s) 112 (p s)) ∧ BigAt h (r + 2 + 2 * n) 112 W ∧ h (r + 4 + 2 * n) = some (xna 168 e)
theorem RowAt.of {h h' : xHp} {r n W lo m : Nat} {p e : Nat → Nat} (k : RowAt h r n p W e) (o : Off lo m h h') (q : r + 5 + 2 * n ≤ lo ∨ lo + m ≤ r) : RowAt h' r n p W e := by
  obtain ⟨k0, k1, ⟨F, k2, k3⟩, k4, k5, k6⟩ := k
  exact ⟨k0, (o r (by omega)).trans k1, ⟨F, (o (r + 1) (by omega)).trans k2, k3⟩, fun s hs => (k4 s hs).of o (by omega), k5.of o (by omega), (o (r + 4 + 2 * n) (by omega)).trans k6⟩
theorem RowAt.part {h h' : xHp} {r n W s v : Nat} {p e : Nat → Nat} (k : RowAt h r n p W e) (hs : s < n) (o : Off (r + 2 + 2 * s) 2 h h') (b : BigAt h' (r + 2 + 2 * s) 112 v) : RowAt h' r n (va_up p s v) W e := by
  obtain ⟨k0, k1, ⟨F, k2, k3⟩, k4, k5, k6⟩ := k
  refine ⟨k0, (o r (by omega)).trans k1, ⟨F, (o (r + 1) (by omega)).trans k2, k3⟩, fun t ht => ?_, k5.of o (by omega), (o (r + 4 + 2 * n) (by omega)).trans k6⟩
  by_cases q : t = s
  · subst q; rw [up_s]; exact b
  · rw [up_n q]; exact (k4 t ht).of o (by omega)
theorem RowAt.whole {h h' : xHp} {r n W v : Nat} {p e : Nat → Nat} (k : RowAt h r n p W e) (o : Off (r + 2 + 2 * n) 2 h h') (b : BigAt h' (r + 2 + 2 * n) 112 v) : RowAt h' r n p v e := by
  obtain ⟨k0, k1, ⟨F, k2, k3⟩, k4, k5, k6⟩ := k
  exact ⟨k0, (o r (by omega)).trans k1, ⟨F, (o (r + 1) (by omega)).trans k2, k3⟩, fun t ht => (k4 t ht).of o (by omega), b, (o (r + 4 + 2 * n) (by omega)).trans k6⟩
theorem RowAt.pows {h : xHp} {r n W : Nat} {p e e' : Nat → Nat} (k : RowAt h r n p W e) : RowAt (xup h (r + 4 + 2 * n) (xna 168 e')) r n p W e' := by
  obtain ⟨k0, k1, ⟨F, k2, k3⟩, k4, k5, k6⟩ := k
  exact ⟨k0, (xup_n (by omega)).trans k1, ⟨F, (xup_n (by omega)).trans k2, k3⟩, fun t ht => (k4 t ht).off (xup_n (by omega)) (xup_n (by omega)), k5.off (xup_n (by omega)) (xup_n (by omega)), xup_s _ _ _⟩
theorem RowAt.congr {h : xHp} {r n W : Nat} {p p' e : Nat → Nat} (k : RowAt h r n p W e) (q : ∀ s, s < n → p s = p' s) : RowAt h r n p' W e := by
  obtain ⟨k0, k1, k2, k4, k5, k6⟩ := k
  exact ⟨k0, k1, k2, fun t ht => by rw [← q t ht]; exact k4 t ht, k5, k6⟩
theorem BigAt.obj {h : xHp} {a N v : Nat} (k : BigAt h a N v) : ∃ u, h a = some (xo 1 [.ref (a + 1), .int (nI u)]) := by
  obtain ⟨u, f, k1, -⟩ := k
  exact ⟨u, k1.1⟩
/-- what is left of a product from prime k on -/
def tl (s : Nat → Nat) : Nat → Nat → Nat
  | 0, _ => 1
  | m + 1, k => xpr k ^ s k * tl s m (k + 1)
theorem tl_pw {s : Nat → Nat} : ∀ m k, pw s k * tl s m k = pw s (k + m)
  | 0, k => Nat.mul_one _
  | m + 1, k => by
    show pw s k * (xpr k ^ s k * tl s m (k + 1)) = _
    rw [← Nat.mul_assoc, show k + (m + 1) = (k + 1) + m by omega]
    exact tl_pw m (k + 1)
theorem tl_pos {s : Nat → Nat} : ∀ m k, 0 < tl s m k
  | 0, _ => Nat.one_pos
  | m + 1, k => Nat.mul_pos (Nat.pow_pos (by have := xpr_b k; omega)) (tl_pos m (k + 1))
theorem tl_cop {s : Nat → Nat} {k : Nat} : ∀ m j, k < j → j + m ≤ 168 → Nat.Coprime (xpr k) (tl s m j)
  | 0, _, _, _ => Nat.coprime_one_right _
  | m + 1, j, h, h2 => Nat.Coprime.mul_right (Nat.Coprime.pow_right _ (Nat.Coprime.symm (xpr_cop j (by omega) k h))) (tl_cop m (j + 1) (by omega) (by omega))
section ROW
variable {g : xG} {post : xPost} {h : xHp} {nx : Nat}
theorem l_grow {r n W G : Nat} {p s : Nat → Nat} (h00 : xHp) (hp : ∀ h' e', RowAt h' r n p W e' → pw e' 168 = G → Off r (5 + 2 * n) h00 h' → post none h' nx) : ∀ (m k : Nat) (e : Nat → Nat) (h : xHp), k + m = 168 → RowAt h r n p W e → Off r (5 + 2 * n) h00 h → pw e 168 * tl s m k = G → tl s m k < 2 ^ 63 →
    Blk g M_X5_growWhole post 5 [(0, .ref r), (3, .long (lN (tl s m k))), (5, .int (nI k))] [] h nx 0 0 := by
  intro m
  induction m with
  | zero =>
    intro k e h hk hR hO hG hl
    obtain ⟨k0, k1, k2, k4, k5, k6⟩ := id hR
    refine v_X5_growWhole_5 ⟨_, _, _, k1, _, _, k6, ⟨by omega, by omega⟩, fun _ => hp h e hR ?_ hO, fun q => absurd q (by omega)⟩
    rw [← hG]
    exact (Nat.mul_one _).symm
  | succ m ih =>
    intro k e h hk hR hO hG hl
    obtain ⟨k0, k1, k2, k4, k5, k6⟩ := id hR
    have hx := xpr_b k
    have hT := tl_pos (s := s) m (k + 1)
    refine v_X5_growWhole_5 ⟨_, _, _, k1, _, _, k6, ⟨by omega, by omega⟩, fun q => absurd q (by omega), fun _ => ⟨⟨hl, by decide⟩, fun q => ?_, fun q => ⟨by omega, ⟨by decide, by omega⟩, ?_⟩⟩⟩
    · have h1 := tl_pos (s := s) (m + 1) k
      have : tl s (m + 1) k = 1 := by omega
      rw [this, Nat.mul_one] at hG
      exact hp h e hR hG hO
    · rw [Nat.max_eq_right hx.1]
      -- the inner loop
      have inner : ∀ (a i : Nat) (e : Nat → Nat) (h : xHp), a + i < 63 → RowAt h r n p W e → Off r (5 + 2 * n) h00 h → pw e 168 * (xpr k ^ a * tl s m (k + 1)) = G → xpr k ^ a * tl s m (k + 1) < 2 ^ 63 →
          Blk g M_X5_growWhole post 36 [(0, .ref r), (3, .long (lN (xpr k ^ a * tl s m (k + 1)))), (5, .int (nI k)), (6, .int (nI (xpr k))), (7, .int (nI i))] [] h nx 0 0 := by
        intro a
        induction a with
        | zero =>
          intro i e h hi hR hO hG hl
          rw [Nat.pow_zero, Nat.one_mul] at hG hl ⊢
          have go := ih (k + 1) e h (by omega) hR hO hG hl
          have cp := tl_cop (s := s) m (k + 1) (Nat.lt_succ_self k) (by omega)
          have hne : ¬ tl s m (k + 1) % xpr k = 0 := fun z => by
            have := Nat.Coprime.eq_one_of_dvd cp (Nat.dvd_of_mod_eq_zero z)
            omega
          have hml := Nat.mod_lt (tl s m (k + 1)) (show 0 < xpr k by omega)
          exact v_X5_growWhole_36 ⟨⟨by omega, by decide⟩, fun q => absurd q (by omega), fun _ => ⟨by omega, ⟨hl, by omega, by omega⟩, ⟨by omega, by decide⟩, fun _ => go, fun z => absurd z hne⟩⟩
        | succ a iha =>
          intro i e h hi hR hO hG hl
          obtain ⟨k0, k1, k2, k4, k5, k6⟩ := id hR
          have e1 : xpr k ^ (a + 1) * tl s m (k + 1) = xpr k * (xpr k ^ a * tl s m (k + 1)) := by rw [Nat.pow_succ]; grind
          rw [e1] at hG hl ⊢
          have hz : xpr k * (xpr k ^ a * tl s m (k + 1)) % xpr k = 0 := Nat.mul_mod_right _ _
          have hdv : xpr k * (xpr k ^ a * tl s m (k + 1)) / xpr k = xpr k ^ a * tl s m (k + 1) := Nat.mul_div_cancel_left _ (by omega)
          have hle : xpr k ^ a * tl s m (k + 1) ≤ xpr k * (xpr k ^ a * tl s m (k + 1)) := Nat.le_mul_of_pos_left _ (by omega)
          refine v_X5_growWhole_36 ⟨⟨by omega, by decide⟩, fun q => absurd q (by omega), fun _ => ⟨by omega, ⟨hl, by omega, by omega⟩, ⟨by rw [hz]; decide, by decide⟩, fun z => absurd hz z, fun _ => ⟨by omega, ⟨hl, by omega, by omega⟩, _, _, _, k1, _, _, k6, by omega, by omega, by omega, by omega, ?_⟩⟩⟩
          rw [hdv]
          refine iha (i + 1) _ _ (by omega) hR.pows (hO.up (by omega) (by omega)) ?_ (by omega)
          rw [pw_up1 (by omega), ← hG]
          grind
      refine inner (s k) 0 e h ?_ hR hO hG hl
      have h1 : 2 ^ s k ≤ xpr k ^ s k := Nat.pow_le_pow_left hx.1 _
      have h2 : xpr k ^ s k * 1 ≤ xpr k ^ s k * tl s m (k + 1) := Nat.mul_le_mul_left _ hT
      have h3 : xpr k ^ s k * tl s m (k + 1) < 2 ^ 63 := hl
      have := (Nat.pow_lt_pow_iff_right (a := 2) (n := s k) (m := 63) (by decide)).mp (by omega)
      omega
theorem c_grow {r n W f : Nat} {p e : Nat → Nat} (hR : RowAt h r n p W e) (hf : smooth f) (hl : f < 2 ^ 63) (hp : ∀ h' e', RowAt h' r n p W e' → pw e' 168 = pw e 168 * f → Off r (5 + 2 * n) h h' → post none h' nx) : Ct g M_X5_growWhole [.ref r, .long (lN f)] h nx post := by
  obtain ⟨s, hs⟩ := hf
  obtain ⟨m, hm⟩ : ∃ m, m = 168 := ⟨_, rfl⟩
  have e1 : f = tl s m 0 := by
    have := tl_pw (s := s) m 0
    rw [Nat.zero_add] at this
    rw [hs, ← hm, ← this]
    exact Nat.one_mul _
  subst e1
  exact Ct.of (by decide +kernel) (Nat.le_of_ble_eq_true rfl) (v_X5_growWhole_0 (l_grow h hp m 0 e h (by omega) hR Off.rf rfl hl))
theorem c_states {r n W : Nat} {p e : Nat → Nat} (hR : RowAt h r n p W e) (hp : post (some (.int (nI n))) h nx) : Ct g M_X5_states [.ref r] h nx post := by
  obtain ⟨k0, k1, ⟨F, k2, k3⟩, k4, k5, k6⟩ := hR
  exact Ct.of (by decide +kernel) (Nat.le_of_ble_eq_true rfl) (v_X5_states_0 ⟨_, _, _, k1, _, _, k2, hp⟩)
theorem c_has {r n W s : Nat} {p e : Nat → Nat} (hR : RowAt h r n p W e) (hs : s < n) (hp : post (some (.ref (r + 2 + 2 * s))) h nx) : Ct g M_X5_has [.ref r, .int (nI s)] h nx post := by
  obtain ⟨k0, k1, ⟨F, k2, k3⟩, k4, k5, k6⟩ := hR
  exact Ct.of (by decide +kernel) (Nat.le_of_ble_eq_true rfl) (v_X5_has_0 ⟨_, _, _, k1, _, _, k2, _, hs, by omega, k3 s hs, hp⟩)
theorem c_whole {r n W : Nat} {p e : Nat → Nat} (hR : RowAt h r n p W e) (hp : post (some (.ref (r + 2 + 2 * n))) h nx) : Ct g M_X5_whole [.ref r] h nx post := by
  obtain ⟨k0, k1, ⟨F, k2, k3⟩, k4, k5, k6⟩ := hR
  exact Ct.of (by decide +kernel) (Nat.le_of_ble_eq_true rfl) (v_X5_whole_0 ⟨_, _, _, k1, hp⟩)
theorem c_power {r n W k : Nat} {p e : Nat → Nat} (hR : RowAt h r n p W e) (hk : k < 168) (hp : post (some (.int (nI (e k)))) h nx) : Ct g M_X5_power [.ref r, .int (nI k)] h nx post := by
  obtain ⟨k0, k1, ⟨F, k2, k3⟩, k4, k5, k6⟩ := hR
  exact Ct.of (by decide +kernel) (Nat.le_of_ble_eq_true rfl) (v_X5_power_0 ⟨_, _, _, k1, _, _, k6, hk, by decide, hp⟩)
theorem l_allD {r n W d : Nat} {p e : Nat → Nat} (hR : RowAt h r n p W e) (hd : 0 < d ∧ d < 1000000000) (hp1 : (∀ s, s < n → p s % d = 0) → post (some (.int (nI 1))) h nx) (hp0 : (¬ ∀ s, s < n → p s % d = 0) → post (some (.int (nI 0))) h nx) : ∀ (m i : Nat), n - i = m → i ≤ n → (∀ s, s < i → p s % d = 0) → Blk g M_X5_allDivide post 2 [(0, .ref r), (1, .int (nI d)), (2, .int (nI i))] [] h nx 0 0 := by
  obtain ⟨k0, k1, ⟨F, k2, k3⟩, k4, k5, k6⟩ := hR
  intro m
  induction m with
  | zero =>
    intro i hm hi hz
    exact v_X5_allDivide_2 ⟨_, _, _, k1, _, _, k2, ⟨by omega, by omega⟩, fun _ => hp1 (fun s hs => hz s (by omega)), fun q => absurd q (by omega)⟩
  | succ m ih =>
    intro i hm hi hz
    obtain ⟨u, hu⟩ := (k4 i (by omega)).obj
    have hml := Nat.mod_lt (p i) hd.1
    refine v_X5_allDivide_2 ⟨_, _, _, k1, _, _, k2, ⟨by omega, by omega⟩, fun q => absurd q (by omega), fun _ => ⟨_, by omega, by omega, k3 i (by omega), _, _, hu, c_remainder (k4 i (by omega)) hd ⟨_, rfl, by omega, fun q => ih (i + 1) (by omega) (by omega) (fun s hs => ?_), fun q => hp0 (fun z => q (z i (by omega)))⟩⟩⟩
    by_cases y : s = i
    · subst y; exact q
    · exact hz s (by omega)
theorem c_allDivide {r n W d : Nat} {p e : Nat → Nat} (hR : RowAt h r n p W e) (hd : 0 < d ∧ d < 1000000000) (hp1 : (∀ s, s < n → p s % d = 0) → post (some (.int (nI 1))) h nx) (hp0 : (¬ ∀ s, s < n → p s % d = 0) → post (some (.int (nI 0))) h nx) : Ct g M_X5_allDivide [.ref r, .int (nI d)] h nx post :=
  Ct.of (by decide +kernel) (Nat.le_of_ble_eq_true rfl) (v_X5_allDivide_0 (l_allD hR hd hp1 hp0 n 0 rfl (Nat.zero_le _) (fun s hs => absurd hs (by omega))))
theorem l_divAll {r n W d : Nat} {p e : Nat → Nat} (h00 : xHp) (hd : 0 < d ∧ d < 1000000000) (hp : ∀ h', RowAt h' r n (fun s => p s / d) W e → Off r (5 + 2 * n) h00 h' → post none h' nx) : ∀ (m i : Nat) (h : xHp), n - i = m → i ≤ n → RowAt h r n (fun s => if s < i then p s / d else p s) W e → Off r (5 + 2 * n) h00 h → Blk g M_X5_divideAll post 2 [(0, .ref r), (1, .int (nI d)), (2, .int (nI i))] [] h nx 0 0 := by
  intro m
  induction m with
  | zero =>
    intro i h hm hi hR hO
    obtain ⟨k0, k1, ⟨F, k2, k3⟩, k4, k5, k6⟩ := id hR
    exact v_X5_divideAll_2 ⟨_, _, _, k1, _, _, k2, ⟨by omega, by omega⟩, fun _ => hp h (hR.congr fun s hs => if_pos (by omega)) hO, fun q => absurd q (by omega)⟩
  | succ m ih =>
    intro i h hm hi hR hO
    obtain ⟨k0, k1, ⟨F, k2, k3⟩, k4, k5, k6⟩ := id hR
    have hB := k4 i (by omega)
    obtain ⟨u, hu⟩ := hB.obj
    refine v_X5_divideAll_2 ⟨_, _, _, k1, _, _, k2, ⟨by omega, by omega⟩, fun q => absurd q (by omega), fun _ => ⟨_, by omega, by omega, k3 i (by omega), _, _, hu, c_divide hB hd (fun h1 hB1 hO1 => ⟨rfl, ?_⟩)⟩⟩
    refine ih (i + 1) h1 (by omega) (by omega) ((hR.part (by omega) hO1 hB1).congr fun s hs => ?_) (hO.tr (hO1.mono (by omega) (by omega)))
    by_cases y : s = i
    · subst y
      rw [up_s, if_pos (by omega)]
      show (if s < s then p s / d else p s) / d = p s / d
      rw [if_neg (by omega)]
    · rw [up_n y]
      by_cases z : s < i
      · rw [if_pos z, if_pos (by omega)]
      · rw [if_neg z, if_neg (by omega)]
theorem c_divideAll {r n W d : Nat} {p e : Nat → Nat} (hR : RowAt h r n p W e) (hd : 0 < d ∧ d < 1000000000) (hp : ∀ h', RowAt h' r n (fun s => p s / d) W e → Off r (5 + 2 * n) h h' → post none h' nx) : Ct g M_X5_divideAll [.ref r, .int (nI d)] h nx post :=
  Ct.of (by decide +kernel) (Nat.le_of_ble_eq_true rfl) (v_X5_divideAll_0 (l_divAll h hd hp n 0 h rfl (Nat.zero_le _) (hR.congr fun s _ => (if_neg (by omega)).symm) Off.rf))
end ROW
