/-! RuleList; Marks: sorting and judging -/
abbrev Rl : Type := (Nat → Nat) × (Nat → Nat) × (Nat → Nat) × (Nat → Nat) × (Nat → Nat) × Nat
abbrev RlAt (h : xHp) (r : Nat) (R : Rl) : Prop := h r = some (xo 7 [.ref (r + 1), .ref (r + 2), .ref (r + 3), .ref (r + 4), .ref (r + 5), .int (nI R.2.2.2.2.2)]) ∧ h (r + 1) = some (xna 20 R.1) ∧ h (r + 2) = some (xna 20 R.2.1) ∧ h (r + 3) = some (xnc 20 R.2.2.1) ∧ h (r + 4) = some (xna 20 R.2.2.2.1) ∧ h (r + 5) = some (xna 20 R.2.2.2.2.1)
theorem RlAt.of {h h' : xHp} {r lo sz : Nat} {R : Rl} (k : RlAt h r R) (o : Off lo sz h h') (q : r + 6 ≤ lo ∨ lo + sz ≤ r) : RlAt h' r R := by
  obtain ⟨k0, k1, k2, k3, k4, k5⟩ := k
  exact ⟨(o r (by omega)).trans k0, (o (r + 1) (by omega)).trans k1, (o (r + 2) (by omega)).trans k2, (o (r + 3) (by omega)).trans k3, (o (r + 4) (by omega)).trans k4, (o (r + 5) (by omega)).trans k5⟩
abbrev rlOK (n : Nat) (R : Rl) : Prop := R.2.2.2.2.2 ≤ 20 ∧ ∀ i, i < R.2.2.2.2.2 → R.1 i ≤ 4 ∧ R.2.1 i < 1000 ∧ R.2.2.1 i < 65536 ∧ R.2.2.2.1 i < 1000 ∧ (R.2.2.2.2.1 i < n ∨ R.2.2.2.2.1 i = 1000 ∨ R.2.2.2.2.1 i = 1001 ∨ R.2.2.2.2.1 i = 1002)
def hm (c : Nat) (so : Nat → Nat) : Nat → Nat
  | 0 => 0
  | i + 1 => hm c so i + (if so i = c then 1 else 0)
theorem hm_s {c i : Nat} {so : Nat → Nat} : hm c so (i + 1) = hm c so i + (if so i = c then 1 else 0) := rfl
theorem hm_le {c : Nat} {so : Nat → Nat} : ∀ i, hm c so i ≤ i
  | 0 => Nat.le_refl _
  | i + 1 => by
    have := hm_le (c := c) (so := so) i
    rw [hm_s]
    split <;> omega
def amt (a c : Nat) (so : Nat → Nat) (k : Nat) : Nat := if a = 1 then k else if a = 2 then so (k - 1) else if a = 3 then so 0 else hm c so k
def hld (a c cm b : Nat) (so : Nat → Nat) (k : Nat) : Nat := if a = 0 then 1 else if cm = 60 then (if amt a c so k < b then 1 else 0) else if cm = 62 then (if b < amt a c so k then 1 else 0) else if amt a c so k = b then 1 else 0
def vlf (v : Nat) (so : Nat → Nat) (k : Nat) : Nat := if v = 1000 then so (k - 1) else if v = 1001 then so 0 else if v = 1002 then so (k / 2) else v
def jd (R : Rl) (so : Nat → Nat) (k : Nat) : Nat → Nat → Nat
  | 0, _ => so (k - 1)
  | d + 1, i => if hld (R.1 i) (R.2.1 i) (R.2.2.1 i) (R.2.2.2.1 i) so k = 0 then jd R so k d (i + 1) else vlf (R.2.2.2.2.1 i) so k
theorem jd_s {R : Rl} {so : Nat → Nat} {k d i : Nat} : jd R so k (d + 1) i = if hld (R.1 i) (R.2.1 i) (R.2.2.1 i) (R.2.2.2.1 i) so k = 0 then jd R so k d (i + 1) else vlf (R.2.2.2.2.1 i) so k := rfl
theorem hm_congr {c : Nat} {so so' : Nat → Nat} : ∀ {k : Nat}, (∀ i, i < k → so i = so' i) → hm c so k = hm c so' k
  | 0, _ => rfl
  | k + 1, h => by rw [hm_s, hm_s, hm_congr (fun i hi => h i (by omega)), h k (by omega)]
theorem amt_congr {a c k : Nat} {so so' : Nat → Nat} (hk : 0 < k) (h : ∀ i, i < k → so i = so' i) : amt a c so k = amt a c so' k := by
  unfold amt
  rw [h (k - 1) (by omega), h 0 hk, hm_congr h]
theorem hld_congr {a c cm b k : Nat} {so so' : Nat → Nat} (hk : 0 < k) (h : ∀ i, i < k → so i = so' i) : hld a c cm b so k = hld a c cm b so' k := by
  unfold hld
  rw [amt_congr hk h]
theorem vlf_congr {v k : Nat} {so so' : Nat → Nat} (hk : 0 < k) (h : ∀ i, i < k → so i = so' i) : vlf v so k = vlf v so' k := by
  unfold vlf
  rw [h (k - 1) (by omega), h 0 hk, h (k / 2) (by omega)]
theorem jd_congr {R : Rl} {k : Nat} {so so' : Nat → Nat} (hk : 0 < k) (h : ∀ i, i < k → so i = so' i) : ∀ d i, jd R so k d i = jd R so' k d i
  | 0, _ => h (k - 1) (by omega)
  | d + 1, i => by rw [jd_s, jd_s, hld_congr hk h, vlf_congr hk h, jd_congr hk h d (i + 1)]
theorem jd_lt {R : Rl} {n k : Nat} {so : Nat → Nat} (hR : rlOK n R) (hk : 0 < k) (hs : ∀ i, i < k → so i < n) : ∀ d i, i + d ≤ R.2.2.2.2.2 → jd R so k d i < n
  | 0, _, _ => hs (k - 1) (by omega)
  | d + 1, i, hi => by
    rw [jd_s]
    split
    · exact jd_lt hR hk hs d (i + 1) (by omega)
    · obtain ⟨_, _, _, _, h5⟩ := hR.2 i (by omega)
      unfold vlf
      split
      · exact hs _ (by omega)
      · split
        · exact hs _ hk
        · split
          · exact hs _ (by omega)
          · omega
def insF (x : Nat) : Nat → (Nat → Nat) → (Nat → Nat)
  | 0, so => va_up so 0 x
  | j + 1, so => if so j ≤ x then va_up so (j + 1) x else insF x j (va_up so (j + 1) (so j))
theorem insF_s {x j : Nat} {so : Nat → Nat} : insF x (j + 1) so = if so j ≤ x then va_up so (j + 1) x else insF x j (va_up so (j + 1) (so j)) := rfl
theorem insF_congr {x k : Nat} : ∀ (j : Nat) {so so' : Nat → Nat}, j ≤ k → (∀ i, i ≤ k → i ≠ j → so i = so' i) → ∀ i, i ≤ k → insF x j so i = insF x j so' i
  | 0, so, so', hj, h, i, hi => by
    show va_up so 0 x i = va_up so' 0 x i
    by_cases z : i = 0
    · subst z; rw [up_s, up_s]
    · rw [up_n z, up_n z]; exact h i hi z
  | j + 1, so, so', hj, h, i, hi => by
    rw [insF_s, insF_s, h j (by omega) (by omega)]
    by_cases q : so' j ≤ x
    · rw [if_pos q, if_pos q]
      by_cases z : i = j + 1
      · subst z; rw [up_s, up_s]
      · rw [up_n z, up_n z]; exact h i hi z
    · rw [if_neg q, if_neg q]
      refine insF_congr j (by omega) (fun l hl hlj => ?_) i hi
      by_cases z : l = j + 1
      · subst z; rw [up_s, up_s]
      · rw [up_n z, up_n z]; exact h l hl z
theorem insF_lt {x n k : Nat} (hx : x < n) : ∀ (j : Nat) {so : Nat → Nat}, j ≤ k → (∀ i, i ≤ k → i ≠ j → so i < n) → ∀ i, i ≤ k → insF x j so i < n
  | 0, so, hj, h, i, hi => by
    show va_up so 0 x i < n
    by_cases z : i = 0
    · subst z; rw [up_s]; exact hx
    · rw [up_n z]; exact h i hi z
  | j + 1, so, hj, h, i, hi => by
    rw [insF_s]
    by_cases q : so j ≤ x
    · rw [if_pos q]
      by_cases z : i = j + 1
      · subst z; rw [up_s]; exact hx
      · rw [up_n z]; exact h i hi z
    · rw [if_neg q]
      refine insF_lt hx j (by omega) (fun l hl hlj => ?_) i hi
      by_cases z : l = j + 1
      · subst z; rw [up_s]; exact h j (by omega) (by omega)
      · rw [up_n z]; exact h l hl z
def sr (m : Nat → Option Nat) : Nat → (Nat → Nat) × Nat
  | 0 => (fun _ => 0, 0)
  | p + 1 => match m p with
    | none => sr m p
    | some x => (insF x (sr m p).2 (sr m p).1, (sr m p).2 + 1)
theorem sr_none {m : Nat → Option Nat} {p : Nat} (h : m p = none) : sr m (p + 1) = sr m p := by
  show (match m p with | none => sr m p | some x => (insF x (sr m p).2 (sr m p).1, (sr m p).2 + 1)) = _
  rw [h]
theorem sr_some {m : Nat → Option Nat} {p x : Nat} (h : m p = some x) : sr m (p + 1) = (insF x (sr m p).2 (sr m p).1, (sr m p).2 + 1) := by
  show (match m p with | none => sr m p | some x => (insF x (sr m p).2 (sr m p).1, (sr m p).2 + 1)) = _
  rw [h]
theorem sr_le {m : Nat → Option Nat} : ∀ p, (sr m p).2 ≤ p
  | 0 => Nat.le_refl _
  | p + 1 => by
    have := sr_le (m := m) p
    match hx : m p with
    | none => rw [sr_none hx]; omega
    | some x => rw [sr_some hx]; show (sr m p).2 + 1 ≤ _; omega
theorem sr_lt {m : Nat → Option Nat} {n : Nat} (h : ∀ p s, m p = some s → s < n) : ∀ p i, i < (sr m p).2 → (sr m p).1 i < n
  | 0, i, hi => absurd hi (Nat.not_lt_zero _)
  | p + 1, i, hi => by
    match hx : m p with
    | none => rw [sr_none hx] at hi ⊢; exact sr_lt h p i hi
    | some x =>
      rw [sr_some hx] at hi ⊢
      have hi : i < (sr m p).2 + 1 := hi
      exact insF_lt (h p x hx) (k := (sr m p).2) _ (Nat.le_refl _) (fun l hl hlj => sr_lt h p l (by omega)) i (by omega)
/-- the grade that rules give to marks -/
def grd (R : Rl) (m : Nat → Option Nat) : Option Nat := if (sr m 4).2 = 0 then none else some (jd R (sr m 4).1 (sr m 4).2 R.2.2.2.2.2 0)
theorem sr_congr {m m' : Nat → Option Nat} : ∀ {p : Nat}, (∀ i, i < p → m i = m' i) → sr m p = sr m' p
  | 0, _ => rfl
  | p + 1, h => by
    have ih := sr_congr (p := p) (fun i hi => h i (by omega))
    have hp := h p (by omega)
    match hx : m p with
    | none => rw [sr_none hx, sr_none (hp ▸ hx), ih]
    | some x => rw [sr_some hx, sr_some (hp ▸ hx), ih]
theorem grd_congr {R : Rl} {m m' : Nat → Option Nat} (h : ∀ i, i < 4 → m i = m' i) : grd R m = grd R m' := by
  unfold grd
  rw [sr_congr h]
theorem grd_lt {R : Rl} {n s : Nat} {m : Nat → Option Nat} (hR : rlOK n R) (h : ∀ p s, m p = some s → s < n) (hs : grd R m = some s) : s < n := by
  unfold grd at hs
  split at hs
  · cases hs
  · have := Option.some.inj hs
    rw [← this]
    exact jd_lt hR (by omega) (fun i hi => sr_lt h 4 i hi) _ _ (by omega)
section RUL
variable {g : xG} {post : xPost} {h : xHp} {nx : Nat}
theorem c_RlInit (r : Nat) (hnx : r + 1 = nx) (h0 : h r = some (xo 7 [.null, .null, .null, .null, .null, .int (nI 0)])) (hp : ∀ h', RlAt h' r (fun _ => 0, fun _ => 0, fun _ => 0, fun _ => 0, fun _ => 0, 0) → Off r 6 h h' → post none h' (r + 6)) : Ct g M_X6_init [.ref r] h nx post := by
  subst hnx
  refine Ct.of (by decide +kernel) (Nat.le_of_ble_eq_true rfl) (v_X6_init_0 ⟨h0, by omega, by omega, by omega, by omega, by omega, ?_⟩)
  refine hp _ ⟨xup_s _ _ _, ?_, ?_, ?_, ?_, ?_⟩ ?_
  · exact (xup_n (by omega)).trans ((xup_n (by omega)).trans ((xup_n (by omega)).trans ((xup_n (by omega)).trans ((xup_n (by omega)).trans ((xup_n (by omega)).trans ((xup_n (by omega)).trans ((xup_n (by omega)).trans ((xup_n (by omega)).trans (xup_s _ _ _)))))))))
  · exact (xup_n (by omega)).trans ((xup_n (by omega)).trans ((xup_n (by omega)).trans ((xup_n (by omega)).trans ((xup_n (by omega)).trans ((xup_n (by omega)).trans ((xup_n (by omega)).trans (xup_s _ _ _)))))))
  · exact (xup_n (by omega)).trans ((xup_n (by omega)).trans ((xup_n (by omega)).trans ((xup_n (by omega)).trans ((xup_n (by omega)).trans (xup_s _ _ _)))))
  · exact (xup_n (by omega)).trans ((xup_n (by omega)).trans ((xup_n (by omega)).trans (xup_s _ _ _)))
  · exact (xup_n (by omega)).trans (xup_s _ _ _)
  · exact (((((((((Off.rf.up (by omega) (by omega)).up (by omega) (by omega)).up (by omega) (by omega)).up (by omega) (by omega)).up (by omega) (by omega)).up (by omega) (by omega)).up (by omega) (by omega)).up (by omega) (by omega)).up (by omega) (by omega)).up (by omega) (by omega)
theorem c_rlClear {r : Nat} {R : Rl} (hR : RlAt h r R) (hp : ∀ h', RlAt h' r (R.1, R.2.1, R.2.2.1, R.2.2.2.1, R.2.2.2.2.1, 0) → Off r 6 h h' → post none h' nx) : Ct g M_X6_clear [.ref r] h nx post := by
  obtain ⟨k0, k1, k2, k3, k4, k5⟩ := hR
  exact Ct.of (by decide +kernel) (Nat.le_of_ble_eq_true rfl) (v_X6_clear_0 ⟨_, _, _, _, _, _, k0, hp _ ⟨xup_s _ _ _, (xup_n (by omega)).trans k1, (xup_n (by omega)).trans k2, (xup_n (by omega)).trans k3, (xup_n (by omega)).trans k4, (xup_n (by omega)).trans k5⟩ (Off.rf.up (by omega) (by omega))⟩)
theorem c_rlSize {r : Nat} {R : Rl} (hR : RlAt h r R) (hp : post (some (.int (nI R.2.2.2.2.2))) h nx) : Ct g M_X6_size [.ref r] h nx post :=
  Ct.of (by decide +kernel) (Nat.le_of_ble_eq_true rfl) (v_X6_size_0 ⟨_, _, _, _, _, _, hR.1, hp⟩)
def rlAdd (R : Rl) (a c cm b v : Nat) : Rl := (va_up R.1 R.2.2.2.2.2 a, va_up R.2.1 R.2.2.2.2.2 c, va_up R.2.2.1 R.2.2.2.2.2 cm, va_up R.2.2.2.1 R.2.2.2.2.2 b, va_up R.2.2.2.2.1 R.2.2.2.2.2 v, R.2.2.2.2.2 + 1)
theorem c_rlAdd {r a c cm b v : Nat} {R : Rl} (hR : RlAt h r R) (hk : R.2.2.2.2.2 < 20) (hcm : cm < 65536) (hp : ∀ h', RlAt h' r (rlAdd R a c cm b v) → Off r 6 h h' → post none h' nx) : Ct g M_X6_add [.ref r, .int (nI a), .int (nI c), .int (nI cm), .int (nI b), .int (nI v)] h nx post := by
  obtain ⟨k0, k1, k2, k3, k4, k5⟩ := hR
  refine Ct.of (by decide +kernel) (Nat.le_of_ble_eq_true rfl) (v_X6_add_0 ⟨_, _, _, _, _, _, k0, ⟨by omega, by decide⟩, fun q => absurd q (by omega), fun _ => ⟨_, _, k1, by omega, by decide, _, _, k2, by omega, by omega, by decide, _, _, k3, by omega, by decide, hcm, _, _, k4, by omega, by omega, by omega, by decide, _, _, k5, by omega, by omega, by omega, by omega, by decide, ?_⟩⟩)
  refine hp _ ⟨xup_s _ _ _, ?_, ?_, ?_, ?_, ?_⟩ ?_
  · exact (xup_n (by omega)).trans ((xup_n (by omega)).trans ((xup_n (by omega)).trans ((xup_n (by omega)).trans ((xup_n (by omega)).trans (xup_s _ _ _)))))
  · exact (xup_n (by omega)).trans ((xup_n (by omega)).trans ((xup_n (by omega)).trans ((xup_n (by omega)).trans (xup_s _ _ _))))
  · exact (xup_n (by omega)).trans ((xup_n (by omega)).trans ((xup_n (by omega)).trans (xup_s _ _ _)))
  · exact (xup_n (by omega)).trans ((xup_n (by omega)).trans (xup_s _ _ _))
  · exact (xup_n (by omega)).trans (xup_s _ _ _)
  · exact (((((Off.rf.up (by omega) (by omega)).up (by omega) (by omega)).up (by omega) (by omega)).up (by omega) (by omega)).up (by omega) (by omega)).up (by omega) (by omega)
theorem c_howMany {c s k : Nat} {so : Nat → Nat} (hS : h s = some (xna 4 so)) (hk : k ≤ 4) (hso : ∀ i, i < k → so i < 2 ^ 31) (hc : c < 2 ^ 31) (hp : post (some (.int (nI (hm c so k)))) h nx) : Ct g M_X6_howMany [.int (nI c), .ref s, .int (nI k)] h nx post := by
  have main : ∀ (d i : Nat), k - i = d → i ≤ k → Blk g M_X6_howMany post 5 [(0, .int (nI c)), (1, .ref s), (2, .int (nI k)), (3, .int (nI (hm c so i))), (4, .int (nI i))] [] h nx 0 0 := by
    intro d
    induction d with
    | zero =>
      intro i hd hi
      have : i = k := by omega
      subst this
      exact v_X6_howMany_5 ⟨⟨by omega, by omega⟩, fun _ => hp, fun q => absurd q (by omega)⟩
    | succ d ih =>
      intro i hd hi
      have i1 := ih (i + 1) (by omega) (by omega)
      refine v_X6_howMany_5 ⟨⟨by omega, by omega⟩, fun q => absurd q (by omega), fun _ => ⟨_, _, hS, by omega, by decide, ⟨hso i (by omega), hc⟩, fun q => ?_, fun q => ?_⟩⟩
      · have e : hm c so (i + 1) = hm c so i := by rw [hm_s, if_neg q]; rfl
        rw [e] at i1; exact i1
      · have e : hm c so (i + 1) = hm c so i + 1 := by rw [hm_s, if_pos q]
        rw [e] at i1; exact i1
  exact Ct.of (by decide +kernel) (Nat.le_of_ble_eq_true rfl) (v_X6_howMany_0 (main k 0 rfl (Nat.zero_le _)))
theorem c_ramount {r s k n i : Nat} {R : Rl} {so : Nat → Nat} (hR : RlAt h r R) (hok : rlOK n R) (hS : h s = some (xna 4 so)) (hk : 0 < k ∧ k ≤ 4) (hso : ∀ i, i < k → so i < 2 ^ 31) (hi : i < R.2.2.2.2.2) (hp : post (some (.int (nI (amt (R.1 i) (R.2.1 i) so k)))) h nx) : Ct g M_X6_amountOf [.ref r, .int (nI i), .ref s, .int (nI k)] h nx post := by
  obtain ⟨k0, k1, k2, k3, k4, k5⟩ := hR
  obtain ⟨o1, o2, o3, o4, o5⟩ := hok.2 i hi
  have := hok.1
  unfold amt at hp
  refine Ct.of (by decide +kernel) (Nat.le_of_ble_eq_true rfl) (v_X6_amountOf_0 ⟨_, _, _, _, _, _, k0, _, _, k1, by omega, by decide, by omega, fun q => ?_, fun q => ⟨by omega, _, _, hS, by omega, by decide, ?_⟩, fun q => ⟨_, _, hS, by omega, by decide, ?_⟩, fun q1 q2 q3 => ⟨_, _, k2, by omega, by decide, c_howMany hS hk.2 hso (by omega) ⟨_, rfl, ?_⟩⟩⟩)
  · rw [if_pos q] at hp; exact hp
  · rw [if_neg (by omega), if_pos q] at hp; exact hp
  · rw [if_neg (by omega), if_neg (by omega), if_pos q] at hp; exact hp
  · rw [if_neg q1, if_neg q2, if_neg q3] at hp; exact hp
theorem amt_lt {a c k : Nat} {so : Nat → Nat} (hk : 0 < k ∧ k ≤ 4) (hso : ∀ i, i < k → so i < 2 ^ 31) : amt a c so k < 2 ^ 31 := by
  unfold amt
  split
  · omega
  · split
    · exact hso _ (by omega)
    · split
      · exact hso _ hk.1
      · have := hm_le (c := c) (so := so) k
        omega
theorem c_holds {r s k n i : Nat} {R : Rl} {so : Nat → Nat} (hR : RlAt h r R) (hok : rlOK n R) (hS : h s = some (xna 4 so)) (hk : 0 < k ∧ k ≤ 4) (hso : ∀ i, i < k → so i < 2 ^ 31) (hi : i < R.2.2.2.2.2) (hp : post (some (.int (nI (hld (R.1 i) (R.2.1 i) (R.2.2.1 i) (R.2.2.2.1 i) so k)))) h nx) : Ct g M_X6_holds [.ref r, .int (nI i), .ref s, .int (nI k)] h nx post := by
  obtain ⟨k0, k1, k2, k3, k4, k5⟩ := id hR
  obtain ⟨o1, o2, o3, o4, o5⟩ := hok.2 i hi
  have := hok.1
  have hal := amt_lt (a := R.1 i) (c := R.2.1 i) hk hso
  unfold hld at hp
  refine Ct.of (by decide +kernel) (Nat.le_of_ble_eq_true rfl) (v_X6_holds_0 ⟨_, _, _, _, _, _, k0, _, _, k1, by omega, by decide, by omega, fun q => c_ramount hR hok hS hk hso hi ⟨_, rfl, _, _, _, _, _, _, k0, _, _, k3, by omega, by decide, ⟨by omega, by decide⟩, fun q2 => ⟨by omega, by decide, ⟨by omega, by decide⟩, fun q3 => ⟨_, _, k4, by omega, by decide, ⟨by omega, by omega⟩, fun q4 => ?_, fun q4 => ?_⟩, fun q3 => ⟨_, _, k4, by omega, by decide, ⟨by omega, by omega⟩, fun q4 => ?_, fun q4 => ?_⟩⟩, fun q2 => ⟨_, _, k4, by omega, by decide, ⟨by omega, by omega⟩, fun q4 => ?_, fun q4 => ?_⟩⟩, fun q => ?_⟩)
  · rw [if_neg q, if_neg q2, if_neg q3, if_neg q4] at hp; exact hp
  · rw [if_neg q, if_neg q2, if_neg q3, if_pos q4] at hp; exact hp
  · rw [if_neg q, if_neg q2, if_pos q3, if_neg (by omega)] at hp; exact hp
  · rw [if_neg q, if_neg q2, if_pos q3, if_pos q4] at hp; exact hp
  · rw [if_neg q, if_pos q2, if_neg (by omega)] at hp; exact hp
  · rw [if_neg q, if_pos q2, if_pos q4] at hp; exact hp
  · rw [if_pos q] at hp; exact hp
theorem c_valueOf {v s k : Nat} {so : Nat → Nat} (hS : h s = some (xna 4 so)) (hk : 0 < k ∧ k ≤ 4) (hv : v < 2 ^ 31) (hp : post (some (.int (nI (vlf v so k)))) h nx) : Ct g M_X6_valueOf [.int (nI v), .ref s, .int (nI k)] h nx post := by
  unfold vlf at hp
  refine Ct.of (by decide +kernel) (Nat.le_of_ble_eq_true rfl) (v_X6_valueOf_0 ⟨hv, fun q => ⟨by omega, _, _, hS, by omega, by decide, ?_⟩, fun q => ⟨_, _, hS, by decide, by decide, ?_⟩, fun q => ⟨⟨by omega, by decide, by decide⟩, _, _, hS, by omega, by decide, ?_⟩, fun q1 q2 q3 => ?_⟩)
  · rw [if_pos q] at hp; exact hp
  · rw [if_neg (by omega), if_pos q] at hp; exact hp
  · rw [if_neg (by omega), if_neg (by omega), if_pos q] at hp; exact hp
  · rw [if_neg q1, if_neg q2, if_neg q3] at hp; exact hp
theorem c_rjudge {r s k n : Nat} {R : Rl} {so : Nat → Nat} (hR : RlAt h r R) (hok : rlOK n R) (hn : n ≤ 6) (hS : h s = some (xna 4 so)) (hk : 0 < k ∧ k ≤ 4) (hso : ∀ i, i < k → so i < 2 ^ 31) (hp : post (some (.int (nI (jd R so k R.2.2.2.2.2 0)))) h nx) : Ct g M_X6_judge [.ref r, .ref s, .int (nI k)] h nx post := by
  have h20 := hok.1
  have main : ∀ (d i : Nat), R.2.2.2.2.2 - i = d → i ≤ R.2.2.2.2.2 → jd R so k d i = jd R so k R.2.2.2.2.2 0 → Blk g M_X6_judge post 15 [(0, .ref r), (1, .ref s), (2, .int (nI k)), (3, .int (nI i))] [] h nx 0 0 := by
    intro d
    induction d with
    | zero =>
      intro i hd hi he
      exact v_X6_judge_15 ⟨_, _, _, _, _, _, hR.1, ⟨by omega, by omega⟩, fun _ => ⟨by omega, _, _, hS, by omega, by decide, by rw [← he] at hp; exact hp⟩, fun q => absurd q (by omega)⟩
    | succ d ih =>
      intro i hd hi he
      obtain ⟨o1, o2, o3, o4, o5⟩ := hok.2 i (by omega)
      rw [jd_s] at he
      refine v_X6_judge_15 ⟨_, _, _, _, _, _, hR.1, ⟨by omega, by omega⟩, fun q => absurd q (by omega), fun _ => c_holds hR hok hS hk hso (by omega) ⟨_, rfl, ?_, fun q => ?_, fun q => ⟨_, _, _, _, _, _, hR.1, _, _, hR.2.2.2.2.2, by omega, by decide, c_valueOf hS hk (by omega) ⟨_, rfl, ?_⟩⟩⟩⟩
      · unfold hld
        repeat' split
        all_goals decide
      · rw [if_pos q] at he
        exact ih (i + 1) (by omega) (by omega) he
      · rw [if_neg q] at he
        rw [he]; exact hp
  exact Ct.of (by decide +kernel) (Nat.le_of_ble_eq_true rfl) (v_X6_judge_0 ⟨⟨by omega, by decide⟩, fun q => absurd q (by omega), fun _ => ⟨_, _, hS, ⟨by omega, by decide⟩, fun _ => main _ 0 rfl (Nat.zero_le _) rfl, fun q => absurd q (by omega)⟩⟩)
end RUL
