/-! Marks: states of places; Moves: counts, groups, shares -/
def oI : Option Nat → Int32
  | none => -1
  | some s => nI s
theorem nI_ne_m1 {s : Nat} (h : s < 2 ^ 31) : ¬ nI s = -1 := fun q => nI_pos h (by rw [q]; decide)
theorem oI_some {o : Option Nat} {s : Nat} (h : o = some s) : oI o = nI s := by rw [h]; rfl
theorem oI_m1 {o : Option Nat} (h : ∀ s, o = some s → s < 2 ^ 31) : oI o = -1 ↔ o = none := by
  constructor
  · intro q
    match o, h, q with
    | none, _, _ => rfl
    | some s, h, q => exact absurd q (nI_ne_m1 (h s rfl))
  · intro q; rw [q]; rfl
theorem oI_nm1 {o : Option Nat} (q : ¬ oI o = -1) : ∃ s, o = some s := by
  match o, q with
  | none, q => exact absurd rfl q
  | some s, _ => exact ⟨s, rfl⟩
abbrev MkAt (h : xHp) (m : Nat) (mk gr : Nat → Option Nat) (kd so : Nat → Nat) : Prop := h m = some (xo 4 [.ref (m + 1), .ref (m + 2), .ref (m + 3), .ref (m + 4)]) ∧ h (m + 1) = some (xia 480 (fun i => oI (mk i))) ∧ h (m + 2) = some (xia 120 (fun i => oI (gr i))) ∧ h (m + 3) = some (xna 10 kd) ∧ h (m + 4) = some (xna 4 so)
theorem MkAt.of {h h' : xHp} {m lo sz : Nat} {mk gr : Nat → Option Nat} {kd so : Nat → Nat} (k : MkAt h m mk gr kd so) (o : Off lo sz h h') (q : m + 5 ≤ lo ∨ lo + sz ≤ m) : MkAt h' m mk gr kd so := by
  obtain ⟨k0, k1, k2, k3, k4⟩ := k
  exact ⟨(o m (by omega)).trans k0, (o (m + 1) (by omega)).trans k1, (o (m + 2) (by omega)).trans k2, (o (m + 3) (by omega)).trans k3, (o (m + 4) (by omega)).trans k4⟩
/-- pairs of years that went from a to b, among the first q pairs -/
def ct (gr : Nat → Option Nat) (a b : Nat) : Nat → Nat
  | 0 => 0
  | q + 1 => ct gr a b q + (if gr (q / 11 * 12 + q % 11) = some a ∧ gr (q / 11 * 12 + q % 11 + 1) = some b then 1 else 0)
def tot (gr : Nat → Option Nat) (a : Nat) : Nat → Nat
  | 0 => 0
  | q + 1 => tot gr a q + (if gr (q / 11 * 12 + q % 11) = some a ∧ (gr (q / 11 * 12 + q % 11 + 1)).isSome then 1 else 0)
theorem ct_s {gr : Nat → Option Nat} {a b : Nat} (q : Nat) : ct gr a b (q + 1) = ct gr a b q + (if gr (q / 11 * 12 + q % 11) = some a ∧ gr (q / 11 * 12 + q % 11 + 1) = some b then 1 else 0) := rfl
theorem tot_s {gr : Nat → Option Nat} {a : Nat} (q : Nat) : tot gr a (q + 1) = tot gr a q + (if gr (q / 11 * 12 + q % 11) = some a ∧ (gr (q / 11 * 12 + q % 11 + 1)).isSome then 1 else 0) := rfl
theorem ct_le {gr : Nat → Option Nat} {a b : Nat} : ∀ q, ct gr a b q ≤ q
  | 0 => Nat.le_refl _
  | q + 1 => by
    show ct gr a b q + _ ≤ q + 1
    have := ct_le (gr := gr) (a := a) (b := b) q
    split <;> omega
theorem tot_le {gr : Nat → Option Nat} {a : Nat} : ∀ q, tot gr a q ≤ q
  | 0 => Nat.le_refl _
  | q + 1 => by
    show tot gr a q + _ ≤ q + 1
    have := tot_le (gr := gr) (a := a) q
    split <;> omega
section MOV
variable {g : xG} {post : xPost} {h : xHp} {nx : Nat}
theorem c_place {t y : Nat} (hp : post (some (.int (nI (t * 12 + y)))) h nx) : Ct g M_X3_place [.int (nI t), .int (nI y)] h nx post := Ct.of (by decide +kernel) (Nat.le_of_ble_eq_true rfl) (v_X3_place_0 hp)
theorem c_stateOf {m t y : Nat} {mk gr : Nat → Option Nat} {kd so : Nat → Nat} (hK : MkAt h m mk gr kd so) (ht : t < 10) (hy : y < 12) (hp : post (some (.int (oI (gr (t * 12 + y))))) h nx) : Ct g M_X3_stateOf [.ref m, .int (nI t), .int (nI y)] h nx post :=
  Ct.of (by decide +kernel) (Nat.le_of_ble_eq_true rfl) (v_X3_stateOf_0 ⟨_, _, _, _, hK.1, c_place ⟨_, rfl, _, _, hK.2.2.1, by omega, by decide, hp⟩⟩)
theorem MovAt.setC {h : xHp} {m n lm ch : Nat} {C C' T G P B : Nat → Nat} (k : MovAt h m n C T G P B lm ch) : MovAt (xup h (m + 1) (xna 36 C')) m n C' T G P B lm ch := by
  obtain ⟨k0, k1, k2, k3, k4, k5⟩ := k
  exact ⟨(xup_n (by omega)).trans k0, xup_s _ _ _, (xup_n (by omega)).trans k2, (xup_n (by omega)).trans k3, (xup_n (by omega)).trans k4, (xup_n (by omega)).trans k5⟩
theorem MovAt.setT {h : xHp} {m n lm ch : Nat} {C T' T G P B : Nat → Nat} (k : MovAt h m n C T G P B lm ch) : MovAt (xup h (m + 2) (xna 6 T')) m n C T' G P B lm ch := by
  obtain ⟨k0, k1, k2, k3, k4, k5⟩ := k
  exact ⟨(xup_n (by omega)).trans k0, (xup_n (by omega)).trans k1, xup_s _ _ _, (xup_n (by omega)).trans k3, (xup_n (by omega)).trans k4, (xup_n (by omega)).trans k5⟩
theorem MovAt.setG {h : xHp} {m n lm ch : Nat} {C G' T G P B : Nat → Nat} (k : MovAt h m n C T G P B lm ch) : MovAt (xup h (m + 3) (xna 6 G')) m n C T G' P B lm ch := by
  obtain ⟨k0, k1, k2, k3, k4, k5⟩ := k
  exact ⟨(xup_n (by omega)).trans k0, (xup_n (by omega)).trans k1, (xup_n (by omega)).trans k2, xup_s _ _ _, (xup_n (by omega)).trans k4, (xup_n (by omega)).trans k5⟩
theorem MovAt.setP {h : xHp} {m n lm ch : Nat} {C P' T G P B : Nat → Nat} (k : MovAt h m n C T G P B lm ch) : MovAt (xup h (m + 4) (xna 36 P')) m n C T G P' B lm ch := by
  obtain ⟨k0, k1, k2, k3, k4, k5⟩ := k
  exact ⟨(xup_n (by omega)).trans k0, (xup_n (by omega)).trans k1, (xup_n (by omega)).trans k2, (xup_n (by omega)).trans k3, xup_s _ _ _, (xup_n (by omega)).trans k5⟩
theorem MovAt.setB {h : xHp} {m n lm ch : Nat} {C B' T G P B : Nat → Nat} (k : MovAt h m n C T G P B lm ch) : MovAt (xup h (m + 5) (xna 6 B')) m n C T G P B' lm ch := by
  obtain ⟨k0, k1, k2, k3, k4, k5⟩ := k
  exact ⟨(xup_n (by omega)).trans k0, (xup_n (by omega)).trans k1, (xup_n (by omega)).trans k2, (xup_n (by omega)).trans k3, (xup_n (by omega)).trans k4, xup_s _ _ _⟩
theorem MovAt.setO {h : xHp} {m n lm ch lm' ch' : Nat} {C T G P B : Nat → Nat} (k : MovAt h m n C T G P B lm ch) : MovAt (xup h m (xo 5 [.int (nI n), .ref (m + 1), .ref (m + 2), .ref (m + 3), .ref (m + 4), .ref (m + 5), .int (nI lm'), .int (nI ch')])) m n C T G P B lm' ch' := by
  obtain ⟨k0, k1, k2, k3, k4, k5⟩ := k
  exact ⟨xup_s _ _ _, (xup_n (by omega)).trans k1, (xup_n (by omega)).trans k2, (xup_n (by omega)).trans k3, (xup_n (by omega)).trans k4, (xup_n (by omega)).trans k5⟩
theorem c_MovInit {n : Nat} (m : Nat) (hnx : m + 1 = nx) (h0 : h m = some (xo 5 [.int (nI 0), .null, .null, .null, .null, .null, .int (nI 0), .int (nI 0)])) (hp : ∀ h', MovAt h' m n (fun _ => 0) (fun _ => 0) (fun _ => 0) (fun _ => 0) (fun _ => 0) 0 0 → Off m 6 h h' → post none h' (m + 6)) : Ct g M_X4_init [.ref m, .int (nI n)] h nx post := by
  subst hnx
  refine Ct.of (by decide +kernel) (Nat.le_of_ble_eq_true rfl) (v_X4_init_0 ⟨h0, by omega, by omega, by omega, by omega, by omega, ?_⟩)
  refine hp _ ⟨xup_s _ _ _, ?_, ?_, ?_, ?_, ?_⟩ ?_
  · exact (xup_n (by omega)).trans ((xup_n (by omega)).trans ((xup_n (by omega)).trans ((xup_n (by omega)).trans ((xup_n (by omega)).trans ((xup_n (by omega)).trans ((xup_n (by omega)).trans ((xup_n (by omega)).trans ((xup_n (by omega)).trans (xup_s _ _ _)))))))))
  · exact (xup_n (by omega)).trans ((xup_n (by omega)).trans ((xup_n (by omega)).trans ((xup_n (by omega)).trans ((xup_n (by omega)).trans ((xup_n (by omega)).trans ((xup_n (by omega)).trans (xup_s _ _ _)))))))
  · exact (xup_n (by omega)).trans ((xup_n (by omega)).trans ((xup_n (by omega)).trans ((xup_n (by omega)).trans ((xup_n (by omega)).trans (xup_s _ _ _)))))
  · exact (xup_n (by omega)).trans ((xup_n (by omega)).trans ((xup_n (by omega)).trans (xup_s _ _ _)))
  · exact (xup_n (by omega)).trans (xup_s _ _ _)
  · exact ((((((((((Off.rf.up (by omega) (by omega)).up (by omega) (by omega)).up (by omega) (by omega)).up (by omega) (by omega)).up (by omega) (by omega)).up (by omega) (by omega)).up (by omega) (by omega)).up (by omega) (by omega)).up (by omega) (by omega)).up (by omega) (by omega)).up (by omega) (by omega)
theorem c_setLeast {m n lm ch x : Nat} {C T G P B : Nat → Nat} (hM : MovAt h m n C T G P B lm ch) (hp : ∀ h', MovAt h' m n C T G P B x ch → Off m 6 h h' → post none h' nx) : Ct g M_X4_setLeast [.ref m, .int (nI x)] h nx post :=
  Ct.of (by decide +kernel) (Nat.le_of_ble_eq_true rfl) (v_X4_setLeast_0 ⟨_, _, _, _, _, _, _, _, hM.1, hp _ hM.setO (Off.rf.up (by omega) (by omega))⟩)
theorem c_number {m n lm ch a b : Nat} {C T G P B : Nat → Nat} (hM : MovAt h m n C T G P B lm ch) (hab : a * 6 + b < 36) (hp : post (some (.int (nI (C (a * 6 + b))))) h nx) : Ct g M_X4_number [.ref m, .int (nI a), .int (nI b)] h nx post :=
  Ct.of (by decide +kernel) (Nat.le_of_ble_eq_true rfl) (v_X4_number_0 ⟨_, _, _, _, _, _, _, _, hM.1, _, _, hM.2.1, hab, by decide, hp⟩)
theorem c_total {m n lm ch a : Nat} {C T G P B : Nat → Nat} (hM : MovAt h m n C T G P B lm ch) (ha : a < 6) (hp : post (some (.int (nI (T a)))) h nx) : Ct g M_X4_total [.ref m, .int (nI a)] h nx post :=
  Ct.of (by decide +kernel) (Nat.le_of_ble_eq_true rfl) (v_X4_total_0 ⟨_, _, _, _, _, _, _, _, hM.1, _, _, hM.2.2.1, ha, by decide, hp⟩)
theorem c_inOneGroup {m n lm ch a b : Nat} {C T G P B : Nat → Nat} (hM : MovAt h m n C T G P B lm ch) (ha : a < 6) (hb : b < 6) (hG : G a < 2 ^ 31 ∧ G b < 2 ^ 31) (hp : post (some (.int (nI (if G a = G b then 1 else 0)))) h nx) : Ct g M_X4_inOneGroup [.ref m, .int (nI a), .int (nI b)] h nx post := by
  refine Ct.of (by decide +kernel) (Nat.le_of_ble_eq_true rfl) (v_X4_inOneGroup_0 ⟨_, _, _, _, _, _, _, _, hM.1, _, _, hM.2.2.2.1, ha, by decide, hb, by decide, hG, fun q => ?_, fun q => ?_⟩)
  · rw [if_neg q] at hp; exact hp
  · rw [if_pos q] at hp; exact hp
theorem c_countAll {m n lm ch k : Nat} {C T G P B : Nat → Nat} {mk gr : Nat → Option Nat} {kd so : Nat → Nat} (hn : n ≤ 6) (hM : MovAt h m n C T G P B lm ch) (hK : MkAt h k mk gr kd so) (hd : k + 5 ≤ m ∨ m + 6 ≤ k) (hgr : ∀ i s, i < 120 → gr i = some s → s < n) (hp : ∀ h' C' T', MovAt h' m n C' T' G P B lm ch → (∀ i, i < 36 → C' i = ct gr (i / 6) (i % 6) 110) → (∀ a, a < n → T' a = tot gr a 110) → Off m 6 h h' → post none h' nx) : Ct g M_X4_countAll [.ref m, .ref k] h nx post := by
  have l57 : ∀ (d t y : Nat) (C T : Nat → Nat) (h' : xHp), 11 - y = d → y ≤ 11 → t < 10 → MovAt h' m n C T G P B lm ch → Off m 6 h h' → (∀ i, i < 36 → C i = ct gr (i / 6) (i % 6) (11 * t + y)) → (∀ a, a < n → T a = tot gr a (11 * t + y)) →
      (∀ (C T : Nat → Nat) (h' : xHp), MovAt h' m n C T G P B lm ch → Off m 6 h h' → (∀ i, i < 36 → C i = ct gr (i / 6) (i % 6) (11 * (t + 1))) → (∀ a, a < n → T a = tot gr a (11 * (t + 1))) → Blk g M_X4_countAll post 49 [(0, .ref m), (1, .ref k), (2, .int (nI (t + 1)))] [] h' nx 0 0) →
      Blk g M_X4_countAll post 57 [(0, .ref m), (1, .ref k), (2, .int (nI t)), (3, .int (nI y))] [] h' nx 0 0 := by
    intro d
    induction d with
    | zero =>
      intro t y C T h' hd' hy ht hM' hO hC hT hk
      have hy11 : y = 11 := by omega
      subst hy11
      exact v_X4_countAll_57 ⟨⟨by decide, by decide⟩, fun _ => hk C T h' hM' hO hC hT, fun q => absurd q (by omega)⟩
    | succ d ih =>
      intro t y C T h' hd' hy ht hM' hO hC hT hk
      have hK' := hK.of hO (by omega)
      have eq1 : (11 * t + y) / 11 * 12 + (11 * t + y) % 11 = t * 12 + y := by omega
      have stC : ∀ a b, ct gr a b (11 * t + (y + 1)) = ct gr a b (11 * t + y) + (if gr (t * 12 + y) = some a ∧ gr (t * 12 + y + 1) = some b then 1 else 0) := by
        intro a b
        rw [← Nat.add_assoc, ct_s, eq1]
      have stT : ∀ a, tot gr a (11 * t + (y + 1)) = tot gr a (11 * t + y) + (if gr (t * 12 + y) = some a ∧ (gr (t * 12 + y + 1)).isSome then 1 else 0) := by
        intro a
        rw [← Nat.add_assoc, tot_s, eq1]
      have skip : (gr (t * 12 + y) = none ∨ gr (t * 12 + y + 1) = none) → Blk g M_X4_countAll post 57 [(0, .ref m), (1, .ref k), (2, .int (nI t)), (3, .int (nI (y + 1)))] [] h' nx 0 0 := by
        intro hz
        refine ih t (y + 1) C T h' (by omega) (by omega) ht hM' hO (fun i hi => ?_) (fun a ha => ?_) hk
        · rw [hC i hi, stC, if_neg, Nat.add_zero]
          rintro ⟨z1, z2⟩
          rcases hz with z | z
          · rw [z] at z1; cases z1
          · rw [z] at z2; cases z2
        · rw [hT a ha, stT, if_neg, Nat.add_zero]
          rintro ⟨z1, z2⟩
          rcases hz with z | z
          · rw [z] at z1; cases z1
          · rw [z] at z2; cases z2
      have ey : t * 12 + (y + 1) = t * 12 + y + 1 := by omega
      have b1 : ∀ s, gr (t * 12 + y) = some s → s < 2 ^ 31 := fun s hs => by have := hgr _ s (by omega) hs; omega
      have b2 : ∀ s, gr (t * 12 + y + 1) = some s → s < 2 ^ 31 := fun s hs => by have := hgr _ s (by omega) hs; omega
      refine v_X4_countAll_57 ⟨⟨by omega, by decide⟩, fun q => absurd q (by omega), fun _ => ⟨_, _, _, _, hK'.1, c_stateOf hK' ht (by omega) ⟨_, rfl, _, _, _, _, hK'.1, c_stateOf hK' ht (by omega) ⟨_, rfl, fun q => skip (Or.inl ((oI_m1 b1).mp q)), fun q => ⟨fun q2 => skip (Or.inr ((oI_m1 b2).mp (by rw [← ey]; exact q2))), fun q2 => ?_⟩⟩⟩⟩⟩
      obtain ⟨a, ha⟩ := oI_nm1 q
      rw [ey] at q2 ⊢
      obtain ⟨b, hb⟩ := oI_nm1 q2
      have ha2 := hgr _ a (by omega) ha
      have hb2 := hgr _ b (by omega) hb
      rw [ha, hb]
      have ej : nI a * nI 6 + nI b = nI (a * 6 + b) := by rw [pk_mul, nI_add]
      refine ⟨_, _, _, _, _, _, _, _, hM'.1, _, _, hM'.2.1, _, ej, by omega, by decide, _, ej, by omega, by decide, _, _, hM'.2.2.1, by omega, _, rfl, by omega, by decide, _, rfl, by omega, by decide, ?_⟩
      refine ih t (y + 1) _ _ _ (by omega) (by omega) ht hM'.setC.setT ((hO.up (by omega) (by omega)).up (by omega) (by omega)) (fun i hi => ?_) (fun c hc => ?_) hk
      · rw [stC, ha, hb]
        by_cases z : i = a * 6 + b
        · have z1 : i / 6 = a := by omega
          have z2 : i % 6 = b := by omega
          rw [z1, z2, if_pos ⟨rfl, rfl⟩, z, up_s, hC _ (by omega)]
          have z3 : (a * 6 + b) / 6 = a := by omega
          have z4 : (a * 6 + b) % 6 = b := by omega
          rw [z3, z4]
        · rw [up_n z, hC i hi, if_neg, Nat.add_zero]
          rintro ⟨z1, z2⟩
          have z3 := Option.some.inj z1
          have z4 := Option.some.inj z2
          omega
      · rw [stT, ha, hb]
        by_cases z : c = a
        · subst z
          rw [up_s, if_pos ⟨rfl, rfl⟩, hT c hc]
        · rw [up_n z, hT c hc, if_neg, Nat.add_zero]
          rintro ⟨z1, z2⟩
          exact z (Option.some.inj z1).symm
  have l49 : ∀ (d t : Nat) (C T : Nat → Nat) (h' : xHp), 10 - t = d → t ≤ 10 → MovAt h' m n C T G P B lm ch → Off m 6 h h' → (∀ i, i < 36 → C i = ct gr (i / 6) (i % 6) (11 * t)) → (∀ a, a < n → T a = tot gr a (11 * t)) → Blk g M_X4_countAll post 49 [(0, .ref m), (1, .ref k), (2, .int (nI t))] [] h' nx 0 0 := by
    intro d
    induction d with
    | zero =>
      intro t C T h' hd' ht hM' hO hC hT
      have : t = 10 := by omega
      subst this
      exact v_X4_countAll_49 ⟨⟨by decide, by decide⟩, fun _ => hp h' C T hM' hC hT hO, fun q => absurd q (by decide)⟩
    | succ d ih =>
      intro t C T h' hd' ht hM' hO hC hT
      exact v_X4_countAll_49 ⟨⟨by omega, by decide⟩, fun q => absurd q (by omega), fun _ => l57 11 t 0 C T h' rfl (by omega) (by omega) hM' hO hC hT (fun C T h' hM' hO hC hT => ih (t + 1) C T h' (by omega) (by omega) hM' hO hC hT)⟩
  have l26 : ∀ (d i : Nat) (T : Nat → Nat) (C : Nat → Nat) (h' : xHp), n - i = d → i ≤ n → MovAt h' m n C T G P B lm ch → Off m 6 h h' → (∀ i, i < 36 → C i = 0) → (∀ a, a < i → T a = 0) → Blk g M_X4_countAll post 26 [(0, .ref m), (1, .ref k), (2, .int (nI i))] [] h' nx 0 0 := by
    intro d
    induction d with
    | zero =>
      intro i T C h' hd' hi hM' hO hC hT
      exact v_X4_countAll_26 ⟨_, _, _, _, _, _, _, _, hM'.1, ⟨by omega, by omega⟩, fun _ => l49 10 0 C T h' rfl (by decide) hM' hO hC (fun a ha => hT a (by omega)), fun q => absurd q (by omega)⟩
    | succ d ih =>
      intro i T C h' hd' hi hM' hO hC hT
      refine v_X4_countAll_26 ⟨_, _, _, _, _, _, _, _, hM'.1, ⟨by omega, by omega⟩, fun q => absurd q (by omega), fun _ => ⟨_, _, hM'.2.2.1, by omega, by decide, ih (i + 1) _ C _ (by omega) (by omega) hM'.setT (hO.up (by omega) (by omega)) hC (fun a ha => ?_)⟩⟩
      by_cases z : a = i
      · subst z; exact up_s
      · rw [up_n z]; exact hT a (by omega)
  have l2 : ∀ (d i : Nat) (C : Nat → Nat) (h' : xHp), 36 - i = d → i ≤ 36 → MovAt h' m n C T G P B lm ch → Off m 6 h h' → (∀ j, j < i → C j = 0) → Blk g M_X4_countAll post 2 [(0, .ref m), (1, .ref k), (2, .int (nI i))] [] h' nx 0 0 := by
    intro d
    induction d with
    | zero =>
      intro i C h' hd' hi hM' hO hC
      exact v_X4_countAll_2 ⟨_, _, _, _, _, _, _, _, hM'.1, _, _, hM'.2.1, ⟨by omega, by decide⟩, fun _ => l26 n 0 T C h' rfl (Nat.zero_le _) hM' hO (fun j hj => hC j (by omega)) (fun a ha => absurd ha (by omega)), fun q => absurd q (by omega)⟩
    | succ d ih =>
      intro i C h' hd' hi hM' hO hC
      refine v_X4_countAll_2 ⟨_, _, _, _, _, _, _, _, hM'.1, _, _, hM'.2.1, ⟨by omega, by decide⟩, fun q => absurd q (by omega), fun _ => ⟨by omega, by decide, ih (i + 1) _ _ (by omega) (by omega) hM'.setC (hO.up (by omega) (by omega)) (fun j hj => ?_)⟩⟩
      by_cases z : j = i
      · subst z; exact up_s
      · rw [up_n z]; exact hC j (by omega)
  exact Ct.of (by decide +kernel) (Nat.le_of_ble_eq_true rfl) (v_X4_countAll_0 (l2 36 0 C h rfl (Nat.zero_le _) hM Off.rf (fun j hj => absurd hj (by omega))))
end MOV
