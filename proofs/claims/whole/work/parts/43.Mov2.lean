/-! Moves: groups and shares -/
def gsS (T : Nat → Nat) (lm : Nat) : Nat → Nat × Nat × Nat
  | 0 => (0, 0, 0)
  | s + 1 => if lm ≤ (gsS T lm s).2.1 + T s then ((gsS T lm s).1 + 1, 0, 0) else ((gsS T lm s).1, (gsS T lm s).2.1 + T s, 1)
theorem gsS_s {T : Nat → Nat} {lm s : Nat} : gsS T lm (s + 1) = if lm ≤ (gsS T lm s).2.1 + T s then ((gsS T lm s).1 + 1, 0, 0) else ((gsS T lm s).1, (gsS T lm s).2.1 + T s, 1) := rfl
theorem gsS_b {T : Nat → Nat} {lm : Nat} : ∀ s, (gsS T lm s).1 ≤ s ∧ (gsS T lm s).2.1 ≤ lm ∧ (gsS T lm s).2.2 ≤ 1
  | 0 => ⟨Nat.le_refl _, Nat.zero_le _, Nat.zero_le _⟩
  | s + 1 => by
    have ih := gsS_b (T := T) (lm := lm) s
    rw [gsS_s]
    by_cases q : lm ≤ (gsS T lm s).2.1 + T s
    · rw [if_pos q]; exact ⟨by show _ + 1 ≤ _; omega, Nat.zero_le _, Nat.zero_le _⟩
    · rw [if_neg q]; exact ⟨by show (gsS T lm s).1 ≤ _; omega, by show (gsS T lm s).2.1 + T s ≤ _; omega, Nat.le_refl _⟩
def gF (T : Nat → Nat) (lm n s : Nat) : Nat := if ¬ (gsS T lm n).2.2 = 0 ∧ 0 < (gsS T lm n).1 ∧ (gsS T lm s).1 = (gsS T lm n).1 then (gsS T lm n).1 - 1 else (gsS T lm s).1
theorem gF_b {T : Nat → Nat} {lm n s : Nat} (h : s ≤ n) : gF T lm n s ≤ n := by
  have := (gsS_b (T := T) (lm := lm) n).1
  have := (gsS_b (T := T) (lm := lm) s).1
  unfold gF
  split <;> omega
def mg (C G : Nat → Nat) (n a b : Nat) : Nat → Nat
  | 0 => 0
  | s + 1 => mg C G n a b s + (if G s = G a ∧ a ≤ s + b ∧ s + b - a < n then C (s * 6 + (s + b - a)) else 0)
theorem mg_s {C G : Nat → Nat} {n a b s : Nat} : mg C G n a b (s + 1) = mg C G n a b s + (if G s = G a ∧ a ≤ s + b ∧ s + b - a < n then C (s * 6 + (s + b - a)) else 0) := rfl
def bt (C G : Nat → Nat) (n a : Nat) : Nat := sm (fun b => mg C G n a b n) n
def shT (C G : Nat → Nat) (n a b : Nat) : Nat := if bt C G n a = 0 then (if b = a then 1 else 0) else mg C G n a b n
theorem mg_congr {C C' G G' : Nat → Nat} {n a b : Nat} (hn : n ≤ 6) (ha : a < n) (hC : ∀ i, i < 36 → C i = C' i) (hG : ∀ s, s < n → G s = G' s) : ∀ k, k ≤ n → mg C G n a b k = mg C' G' n a b k
  | 0, _ => rfl
  | k + 1, hk => by
    rw [mg_s, mg_s, mg_congr hn ha hC hG k (by omega), hG k (by omega), hG a ha]
    by_cases q : G' k = G' a ∧ a ≤ k + b ∧ k + b - a < n
    · rw [if_pos q, if_pos q, hC _ (by omega)]
    · rw [if_neg q, if_neg q]
theorem bt_congr {C C' G G' : Nat → Nat} {n a : Nat} (hn : n ≤ 6) (ha : a < n) (hC : ∀ i, i < 36 → C i = C' i) (hG : ∀ s, s < n → G s = G' s) : bt C G n a = bt C' G' n a := sm_congr fun b _ => mg_congr hn ha hC hG n (Nat.le_refl _)
theorem shT_congr {C C' G G' : Nat → Nat} {n a b : Nat} (hn : n ≤ 6) (ha : a < n) (hC : ∀ i, i < 36 → C i = C' i) (hG : ∀ s, s < n → G s = G' s) : shT C G n a b = shT C' G' n a b := by
  unfold shT
  rw [bt_congr hn ha hC hG, mg_congr hn ha hC hG n (Nat.le_refl _)]
theorem sm_block {C : Nat → Nat} {k : Nat} : ∀ j, sm C (k + j) = sm C k + sm (fun i => C (k + i)) j
  | 0 => rfl
  | j + 1 => by
    show sm C (k + j) + C (k + j) = sm C k + (sm (fun i => C (k + i)) j + C (k + j))
    rw [sm_block j]; omega
theorem sm_le_sm {p q : Nat → Nat} : ∀ {n : Nat}, (∀ s, s < n → p s ≤ q s) → sm p n ≤ sm q n
  | 0, _ => Nat.le_refl _
  | n + 1, h => Nat.add_le_add (sm_le_sm fun s hs => h s (by omega)) (h n (by omega))
theorem sm_swap {f : Nat → Nat → Nat} {m : Nat} : ∀ {n : Nat}, sm (fun a => sm (fun b => f a b) m) n = sm (fun b => sm (fun a => f a b) n) m
  | 0 => by
    have : ∀ k, sm (fun _ => 0) k = 0 := by
      intro k
      induction k with
      | zero => rfl
      | succ k ih => show sm (fun _ => 0) k + 0 = 0; rw [ih]
    exact (this m).symm
  | n + 1 => by
    show sm (fun a => sm (fun b => f a b) m) n + sm (fun b => f n b) m = sm (fun b => sm (fun a => f a b) n + f n b) m
    rw [sm_swap, sm_add]
theorem mg_sm {C G : Nat → Nat} {n a b : Nat} : ∀ k, mg C G n a b k = sm (fun s => if G s = G a ∧ a ≤ s + b ∧ s + b - a < n then C (s * 6 + (s + b - a)) else 0) k
  | 0 => rfl
  | k + 1 => by rw [mg_s, mg_sm k]; rfl
theorem shift_le {f : Nat → Nat} {a s n : Nat} {Q : Prop} [Decidable Q] : ∀ m, sm (fun b => if Q ∧ a ≤ s + b ∧ s + b - a < n then f (s + b - a) else 0) m ≤ sm f (min n (s + m - a))
  | 0 => Nat.zero_le _
  | m + 1 => by
    have ih := shift_le (f := f) (a := a) (s := s) (n := n) (Q := Q) m
    show sm _ m + (if Q ∧ a ≤ s + m ∧ s + m - a < n then f (s + m - a) else 0) ≤ _
    by_cases q : Q ∧ a ≤ s + m ∧ s + m - a < n
    · rw [if_pos q]
      have e1 : min n (s + (m + 1) - a) = (s + m - a) + 1 := by omega
      have e2 : min n (s + m - a) = s + m - a := by omega
      rw [e2] at ih
      rw [e1]
      exact Nat.add_le_add_right ih _
    · rw [if_neg q, Nat.add_zero]
      exact Nat.le_trans ih (sm_mono (by omega))
theorem bt_le {C G : Nat → Nat} {n a : Nat} (hn : n ≤ 6) : bt C G n a ≤ sm C 36 := by
  unfold bt
  have e1 : sm (fun b => mg C G n a b n) n = sm (fun b => sm (fun s => if G s = G a ∧ a ≤ s + b ∧ s + b - a < n then C (s * 6 + (s + b - a)) else 0) n) n := sm_congr fun b _ => mg_sm n
  rw [e1, sm_swap]
  have e2 : sm (fun s => sm (fun b => if G s = G a ∧ a ≤ s + b ∧ s + b - a < n then C (s * 6 + (s + b - a)) else 0) n) n ≤ sm (fun s => sm (fun j => C (s * 6 + j)) 6) n := by
    refine sm_le_sm fun s _ => ?_
    refine Nat.le_trans (shift_le (f := fun j => C (s * 6 + j)) (Q := G s = G a) n) (sm_mono (by omega))
  have e3 : ∀ k, sm (fun s => sm (fun j => C (s * 6 + j)) 6) k = sm C (k * 6) := by
    intro k
    induction k with
    | zero => rfl
    | succ k ih =>
      show sm (fun s => sm (fun j => C (s * 6 + j)) 6) k + sm (fun j => C (k * 6 + j)) 6 = _
      rw [ih, show (k + 1) * 6 = k * 6 + 6 by omega, sm_block]
  rw [e3] at e2
  exact Nat.le_trans e2 (sm_mono (by omega))
theorem ct_sum {gr : Nat → Option Nat} : ∀ q, sm (fun i => ct gr (i / 6) (i % 6) q) 36 ≤ q
  | 0 => by
    have : ∀ k, sm (fun i => ct gr (i / 6) (i % 6) 0) k = 0 := by
      intro k
      induction k with
      | zero => rfl
      | succ k ih => show sm _ k + 0 = 0; rw [ih]
    rw [this]; exact Nat.le_refl _
  | q + 1 => by
    have ih := ct_sum (gr := gr) q
    have e1 : sm (fun i => ct gr (i / 6) (i % 6) (q + 1)) 36 = sm (fun i => ct gr (i / 6) (i % 6) q) 36 + sm (fun i => if gr (q / 11 * 12 + q % 11) = some (i / 6) ∧ gr (q / 11 * 12 + q % 11 + 1) = some (i % 6) then 1 else 0) 36 := by
      rw [← sm_add]
      exact sm_congr fun i _ => ct_s q
    have e2 : sm (fun i => if gr (q / 11 * 12 + q % 11) = some (i / 6) ∧ gr (q / 11 * 12 + q % 11 + 1) = some (i % 6) then 1 else 0) 36 ≤ 1 := by
      match hx : gr (q / 11 * 12 + q % 11), hy : gr (q / 11 * 12 + q % 11 + 1) with
      | some x, some y =>
        have : sm (fun i => if some x = some (i / 6) ∧ some y = some (i % 6) then 1 else 0) 36 ≤ sm (fun i => if i = x * 6 + y then 1 else 0) 36 := by
          refine sm_le_sm fun i _ => ?_
          by_cases z : some x = some (i / 6) ∧ some y = some (i % 6)
          · have z1 := Option.some.inj z.1
            have z2 := Option.some.inj z.2
            rw [if_pos z, if_pos (by omega)]
            exact Nat.le_refl _
          · rw [if_neg z]; exact Nat.zero_le _
        rw [sm_one] at this
        refine Nat.le_trans this ?_
        split <;> omega
      | none, y =>
        have : sm (fun i => if (none : Option Nat) = some (i / 6) ∧ y = some (i % 6) then 1 else 0) 36 ≤ sm (fun i => if i = 0 then 1 else 0) 36 := by
          refine sm_le_sm fun i _ => ?_
          rw [if_neg (fun z => by cases z.1)]; exact Nat.zero_le _
        rw [sm_one] at this
        refine Nat.le_trans this ?_
        split <;> omega
      | some x, none =>
        have : sm (fun i => if some x = some (i / 6) ∧ (none : Option Nat) = some (i % 6) then 1 else 0) 36 ≤ sm (fun i => if i = 0 then 1 else 0) 36 := by
          refine sm_le_sm fun i _ => ?_
          rw [if_neg (fun z => by cases z.2)]; exact Nat.zero_le _
        rw [sm_one] at this
        refine Nat.le_trans this ?_
        split <;> omega
    omega
theorem shT_sum {C G : Nat → Nat} {n a : Nat} (ha : a < n) : sm (fun b => shT C G n a b) n = max 1 (bt C G n a) := by
  by_cases q : bt C G n a = 0
  · have e1 : sm (fun b => shT C G n a b) n = sm (fun b => if b = a then 1 else 0) n := sm_congr fun b _ => if_pos q
    rw [e1, sm_one, if_pos ha, q]; rfl
  · have e1 : sm (fun b => shT C G n a b) n = bt C G n a := sm_congr fun b _ => if_neg q
    rw [e1]; omega
section MOV2
variable {g : xG} {post : xPost} {h : xHp} {nx : Nat}
theorem c_join {m n lm ch x : Nat} {C T G P B : Nat → Nat} (hn : n ≤ 6) (hM : MovAt h m n C T G P B lm ch) (hx : 0 < x ∧ x < 2 ^ 31) (hG : ∀ s, s < n → G s < 2 ^ 31) (hp : ∀ h' G', MovAt h' m n C T G' P B lm ch → (∀ s, s < n → G' s = if G s = x then x - 1 else G s) → Off m 6 h h' → post none h' nx) : Ct g M_X4_joinToGroupBefore [.ref m, .int (nI x)] h nx post := by
  have main : ∀ (d i : Nat) (G' : Nat → Nat) (h' : xHp), n - i = d → i ≤ n → MovAt h' m n C T G' P B lm ch → (∀ s, s < n → G' s = if s < i ∧ G s = x then x - 1 else G s) → Off m 6 h h' → Blk g M_X4_joinToGroupBefore post 2 [(0, .ref m), (1, .int (nI x)), (2, .int (nI i))] [] h' nx 0 0 := by
    intro d
    induction d with
    | zero =>
      intro i G' h' hd hi hM' hG' hO
      refine v_X4_joinToGroupBefore_2 ⟨_, _, _, _, _, _, _, _, hM'.1, ⟨by omega, by omega⟩, fun _ => hp h' G' hM' (fun s hs => ?_) hO, fun q => absurd q (by omega)⟩
      rw [hG' s hs]
      by_cases z : G s = x
      · rw [if_pos z, if_pos ⟨by omega, z⟩]
      · rw [if_neg z, if_neg (fun y => z y.2)]
    | succ d ih =>
      intro i G' h' hd hi hM' hG' hO
      have e1 : G' i = G i := by rw [hG' i (by omega), if_neg (fun y => absurd y.1 (by omega))]
      have := hG i (by omega)
      refine v_X4_joinToGroupBefore_2 ⟨_, _, _, _, _, _, _, _, hM'.1, ⟨by omega, by omega⟩, fun q => absurd q (by omega), fun _ => ⟨_, _, hM'.2.2.2.1, by omega, by decide, ⟨by omega, by omega⟩, fun q => ih (i + 1) G' h' (by omega) (by omega) hM' (fun s hs => ?_) hO, fun q => ⟨by omega, by omega, by decide, ih (i + 1) _ _ (by omega) (by omega) hM'.setG (fun s hs => ?_) (hO.up (by omega) (by omega))⟩⟩⟩
      · rw [hG' s hs]
        by_cases z : s = i
        · subst z
          rw [if_neg (fun y => absurd y.1 (by omega)), if_neg (fun y => q (e1.trans y.2))]
        · by_cases y : s < i ∧ G s = x
          · rw [if_pos y, if_pos ⟨by omega, y.2⟩]
          · rw [if_neg y, if_neg (fun w => y ⟨by omega, w.2⟩)]
      · by_cases z : s = i
        · subst z
          rw [up_s, if_pos ⟨by omega, by omega⟩]
        · rw [up_n z, hG' s hs]
          by_cases y : s < i ∧ G s = x
          · rw [if_pos y, if_pos ⟨by omega, y.2⟩]
          · rw [if_neg y, if_neg (fun w => y ⟨by omega, w.2⟩)]
  exact Ct.of (by decide +kernel) (Nat.le_of_ble_eq_true rfl) (v_X4_joinToGroupBefore_0 (main n 0 G h rfl (Nat.zero_le _) hM (fun s _ => (if_neg (fun y => absurd y.1 (by omega))).symm) Off.rf))
theorem c_groupAll {m n lm ch : Nat} {C T G P B : Nat → Nat} (hn : n ≤ 6) (hM : MovAt h m n C T G P B lm ch) (hT : ∀ a, a < n → T a ≤ 110) (hl : lm ≤ 50) (hp : ∀ h' G', MovAt h' m n C T G' P B lm ch → (∀ s, s < n → G' s = gF T lm n s) → Off m 6 h h' → post none h' nx) : Ct g M_X4_groupAll [.ref m] h nx post := by
  have main : ∀ (d i : Nat) (G' : Nat → Nat) (h' : xHp), n - i = d → i ≤ n → MovAt h' m n C T G' P B lm ch → (∀ s, s < i → G' s = (gsS T lm s).1) → Off m 6 h h' → Blk g M_X4_groupAll post 9 [(0, .ref m), (1, .int (nI (gsS T lm i).1)), (2, .int (nI (gsS T lm i).2.1)), (3, .int (nI (gsS T lm i).2.2)), (4, .int (nI i))] [] h' nx 0 0 := by
    intro d
    induction d with
    | zero =>
      intro i G' h' hd hi hM' hG' hO
      have hin : i = n := by omega
      subst hin
      have hb := gsS_b (T := T) (lm := lm) i
      refine v_X4_groupAll_9 ⟨_, _, _, _, _, _, _, _, hM'.1, ⟨by omega, by omega⟩, fun _ => ⟨by omega, fun q => hp h' G' hM' (fun s hs => ?_) hO, fun q => ⟨by omega, fun q2 => hp h' G' hM' (fun s hs => ?_) hO, fun q2 => c_join hn hM' ⟨q2, by omega⟩ (fun s hs => ?_) (fun h1 G1 hM1 hG1 hO1 => ⟨rfl, hp h1 G1 hM1 (fun s hs => ?_) (hO.tr hO1)⟩)⟩⟩, fun q => absurd q (by omega)⟩
      · rw [hG' s hs]; unfold gF; rw [if_neg (fun z => z.1 q)]
      · rw [hG' s hs]; unfold gF; rw [if_neg (fun z => by omega)]
      · rw [hG' s hs]
        have := (gsS_b (T := T) (lm := lm) s).1
        omega
      · rw [hG1 s hs, hG' s hs]
        unfold gF
        by_cases z : (gsS T lm s).1 = (gsS T lm i).1
        · rw [if_pos z, if_pos ⟨q, q2, z⟩]
        · rw [if_neg z, if_neg (fun y => z y.2.2)]
    | succ d ih =>
      intro i G' h' hd hi hM' hG' hO
      have hb := gsS_b (T := T) (lm := lm) i
      have hTi := hT i (by omega)
      have hs1 := gsS_s (T := T) (lm := lm) (s := i)
      have nG : ∀ s, s < i + 1 → va_up G' i (gsS T lm i).1 s = (gsS T lm s).1 := by
        intro s hs
        by_cases z : s = i
        · subst z; exact up_s
        · rw [up_n z]; exact hG' s (by omega)
      refine v_X4_groupAll_9 ⟨_, _, _, _, _, _, _, _, hM'.1, ⟨by omega, by omega⟩, fun q => absurd q (by omega), fun _ => ⟨_, _, hM'.2.2.2.1, by omega, by decide, _, _, hM'.2.2.1, by omega, by omega, by decide, ⟨by omega, by omega⟩, fun q => ?_, fun q => ?_⟩⟩
      · rw [if_pos q] at hs1
        have := ih (i + 1) _ _ (by omega) (by omega) hM'.setG nG (hO.up (by omega) (by omega))
        rw [hs1] at this
        exact this
      · rw [if_neg (by omega)] at hs1
        have := ih (i + 1) _ _ (by omega) (by omega) hM'.setG nG (hO.up (by omega) (by omega))
        rw [hs1] at this
        exact this
  exact Ct.of (by decide +kernel) (Nat.le_of_ble_eq_true rfl) (v_X4_groupAll_0 (main n 0 G h rfl (Nat.zero_le _) hM (fun s hs => absurd hs (by omega)) Off.rf))
theorem nI_sum (x b a : Nat) : nI x + (nI b - nI a) = nI (x + b) - nI a := by
  rw [← nI_add, Int32.sub_eq_add_neg, Int32.sub_eq_add_neg, Int32.add_assoc]
theorem c_movesInGroup {m n lm ch a b : Nat} {C T G P B : Nat → Nat} (hn : n ≤ 6) (hM : MovAt h m n C T G P B lm ch) (ha : a < n) (hb : b < n) (hG : ∀ s, s < n → G s < 2 ^ 31) (hp : post (some (.int (nI (mg C G n a b n)))) h nx) : Ct g M_X4_movesInGroup [.ref m, .int (nI a), .int (nI b - nI a)] h nx post := by
  have main : ∀ (d i : Nat), n - i = d → i ≤ n → Blk g M_X4_movesInGroup post 5 [(0, .ref m), (1, .int (nI a)), (2, .int (nI b - nI a)), (3, .int (nI (mg C G n a b i))), (4, .int (nI i))] [] h nx 0 0 := by
    intro d
    induction d with
    | zero =>
      intro i hd hi
      have hin : i = n := by omega
      subst hin
      exact v_X4_movesInGroup_5 ⟨_, _, _, _, _, _, _, _, hM.1, ⟨by omega, by omega⟩, fun _ => hp, fun q => absurd q (by omega)⟩
    | succ d ih =>
      intro i hd hi
      have i1 := ih (i + 1) (by omega) (by omega)
      have hs1 := mg_s (C := C) (G := G) (n := n) (a := a) (b := b) (s := i)
      have e1 := nI_sum i b a
      refine v_X4_movesInGroup_5 ⟨_, _, _, _, _, _, _, _, hM.1, ⟨by omega, by omega⟩, fun q => absurd q (by omega), fun _ => ⟨_, _, hM.2.2.2.1, by omega, by decide, by omega, by decide, ⟨hG i (by omega), hG a ha⟩, fun q => ?_, fun q => ⟨fun q2 => ?_, fun q2 => ⟨fun q3 => ?_, fun q3 => ?_⟩⟩⟩⟩
      · rw [if_neg (fun z => q z.1), Nat.add_zero] at hs1
        replace hs1 : mg C G n a b (i + 1) = mg C G n a b i := hs1
        rw [← hs1]; exact i1
      · rw [e1] at q2
        rw [if_neg, Nat.add_zero] at hs1
        · replace hs1 : mg C G n a b (i + 1) = mg C G n a b i := hs1
          rw [← hs1]; exact i1
        · intro z
          rw [pk_sub z.2.1] at q2
          exact nI_pos (by omega) q2
      · rw [e1] at q3
        rw [if_neg, Nat.add_zero] at hs1
        · replace hs1 : mg C G n a b (i + 1) = mg C G n a b i := hs1
          rw [← hs1]; exact i1
        · intro z
          rw [pk_sub z.2.1] at q3
          exact nI_ge z.2.2 (by omega) q3
      · rw [e1] at q2 q3 ⊢
        have z1 : a ≤ i + b := by
          rcases Nat.lt_or_ge (i + b) a with w | w
          · exact absurd (pk_sneg (by omega) w) q2
          · exact w
        rw [pk_sub z1] at q3 ⊢
        have z2 : i + b - a < n := by
          rcases Nat.lt_or_ge (i + b - a) n with w | w
          · exact w
          · exact absurd (nI_le w (by omega)) q3
        rw [if_pos ⟨q, z1, z2⟩] at hs1
        refine ⟨_, _, hM.2.1, _, nI_add _ _, by omega, by decide, ?_⟩
        rw [← hs1]; exact i1
  exact Ct.of (by decide +kernel) (Nat.le_of_ble_eq_true rfl) (v_X4_movesInGroup_0 (main n 0 rfl (Nat.zero_le _)))
theorem c_setTop {m n lm ch i x : Nat} {C T G P B : Nat → Nat} (hM : MovAt h m n C T G P B lm ch) (hi : i < 36) (hP : P i < 2 ^ 31) (hx : x < 2 ^ 31) (hp : ∀ h' P' ch', MovAt h' m n C T G P' B lm ch' → (∀ j, P' j = if j = i then x else P j) → (ch' = ch ∧ P i = x ∨ ch' = 1 ∧ ¬ P i = x) → Off m 6 h h' → post none h' nx) : Ct g M_X4_setTop [.ref m, .int (nI i), .int (nI x)] h nx post := by
  refine Ct.of (by decide +kernel) (Nat.le_of_ble_eq_true rfl) (v_X4_setTop_0 ⟨_, _, _, _, _, _, _, _, hM.1, _, _, hM.2.2.2.2.1, hi, by decide, ⟨hP, hx⟩, fun q => hp h P ch hM (fun j => ?_) (Or.inl ⟨rfl, q⟩) Off.rf, fun q => ⟨hi, by decide, hp _ _ 1 hM.setP.setO (fun j => ?_) (Or.inr ⟨rfl, q⟩) ((Off.rf.up (by omega) (by omega)).up (by omega) (by omega))⟩⟩)
  · by_cases z : j = i
    · subst z; rw [if_pos rfl]; exact q
    · rw [if_neg z]
  · by_cases z : j = i
    · subst z; rw [if_pos rfl]; exact up_s
    · rw [if_neg z]; exact up_n z
theorem mg_le {C G : Nat → Nat} {n a b : Nat} (hb : b < n) : mg C G n a b n ≤ bt C G n a := sm_le (p := fun b => mg C G n a b n) hb
theorem c_shareOut {m n lm ch a : Nat} {C T G P B : Nat → Nat} (hn : n ≤ 6) (hM : MovAt h m n C T G P B lm ch) (ha : a < n) (hG : ∀ s, s < n → G s < 2 ^ 31) (hC : bt C G n a < 2 ^ 31) (hP : ∀ i, i < 36 → P i < 2 ^ 31)
    (hp : ∀ h' P' ch', MovAt h' m n C T G P' (va_up B a (max 1 (bt C G n a))) lm ch' → (∀ j, P' j = if a * 6 ≤ j ∧ j < a * 6 + n then shT C G n a (j - a * 6) else P j) → (ch' = 1 ∨ ch' = ch ∧ ∀ j, P' j = P j) → Off m 6 h h' → post none h' nx) : Ct g M_X4_shareOut [.ref m, .int (nI a)] h nx post := by
  have fin : ∀ (d i : Nat) (P' : Nat → Nat) (ch' : Nat) (h' : xHp), n - i = d → i ≤ n → MovAt h' m n C T G P' B lm ch' → (∀ j, P' j = if a * 6 ≤ j ∧ j < a * 6 + i then shT C G n a (j - a * 6) else P j) → (ch' = 1 ∨ ch' = ch ∧ ∀ j, P' j = P j) → Off m 6 h h' → Blk g M_X4_shareOut post 31 [(0, .ref m), (1, .int (nI a)), (2, .int (nI (bt C G n a))), (3, .int (nI i))] [] h' nx 0 0 := by
    intro d
    induction d with
    | zero =>
      intro i P' ch' h' hd hi hM' hP' hch hO
      have hin : i = n := by omega
      subst hin
      exact v_X4_shareOut_31 ⟨_, _, _, _, _, _, _, _, hM'.1, ⟨by omega, by omega⟩, fun _ => ⟨⟨by decide, hC⟩, _, _, hM'.2.2.2.2.2, by omega, by decide, hp _ P' ch' hM'.setB hP' hch (hO.up (by omega) (by omega))⟩, fun q => absurd q (by omega)⟩
    | succ d ih =>
      intro i P' ch' h' hd hi hM' hP' hch hO
      have hml := mg_le (C := C) (G := G) (n := n) (a := a) (b := i) (by omega)
      have hPi : P' (a * 6 + i) = P (a * 6 + i) := by rw [hP', if_neg (by omega)]
      have hPb := hP (a * 6 + i) (by omega)
      have go : ∀ (x : Nat), x = shT C G n a i → x < 2 ^ 31 → Ct g M_X4_setTop [.ref m, .int (nI (a * 6 + i)), .int (nI x)] h' nx (fun r h27 n28 => r = none ∧ Blk g M_X4_shareOut post 31 [(0, .ref m), (1, .int (nI a)), (2, .int (nI (bt C G n a))), (3, .int (nI (i + 1)))] [] h27 n28 0 0) := by
        intro x hx hx2
        refine c_setTop hM' (by omega) (by omega) hx2 (fun h1 P1 ch1 hM1 hP1 hc1 hO1 => ⟨rfl, ih (i + 1) P1 ch1 h1 (by omega) (by omega) hM1 (fun j => ?_) ?_ (hO.tr hO1)⟩)
        · rw [hP1 j]
          by_cases z : j = a * 6 + i
          · rw [if_pos z, if_pos (by omega), hx, z, Nat.add_sub_cancel_left]
          · rw [if_neg z, hP' j]
            by_cases y : a * 6 ≤ j ∧ j < a * 6 + i
            · rw [if_pos y, if_pos (by omega)]
            · rw [if_neg y, if_neg (by omega)]
        · rcases hc1 with ⟨c1, c2⟩ | ⟨c1, c2⟩
          · rcases hch with c3 | ⟨c3, c4⟩
            · exact Or.inl (c1.trans c3)
            · refine Or.inr ⟨c1.trans c3, fun j => ?_⟩
              rw [hP1 j]
              by_cases z : j = a * 6 + i
              · rw [if_pos z, ← c2, z]; exact c4 _
              · rw [if_neg z]; exact c4 j
          · exact Or.inl c1
      refine v_X4_shareOut_31 ⟨_, _, _, _, _, _, _, _, hM'.1, ⟨by omega, by omega⟩, fun q => absurd q (by omega), fun _ => ⟨⟨by omega, by omega⟩, fun q => ⟨hC, fun q2 => c_movesInGroup hn hM' ha (by omega) hG ⟨_, rfl, _, _, _, _, _, _, _, _, hM'.1, go _ ?_ (by omega)⟩, fun q2 => go 0 ?_ (by decide)⟩, fun q => ⟨hC, fun q2 => c_movesInGroup hn hM' ha (by omega) hG ⟨_, rfl, _, _, _, _, _, _, _, _, hM'.1, go _ ?_ (by omega)⟩, fun q2 => go 1 ?_ (by decide)⟩⟩⟩
      · unfold shT; rw [if_neg q2]
      · unfold shT; rw [if_pos q2, if_neg q]
      · unfold shT; rw [if_neg q2]
      · unfold shT; rw [if_pos q2, if_pos q]
  have l4 : ∀ (d i : Nat), n - i = d → i ≤ n → Blk g M_X4_shareOut post 4 [(0, .ref m), (1, .int (nI a)), (2, .int (nI (sm (fun b => mg C G n a b n) i))), (3, .int (nI i))] [] h nx 0 0 := by
    intro d
    induction d with
    | zero =>
      intro i hd hi
      have hin : i = n := by omega
      subst hin
      refine v_X4_shareOut_4 ⟨_, _, _, _, _, _, _, _, hM.1, ⟨by omega, by omega⟩, fun _ => fin i 0 P ch h rfl (Nat.zero_le _) hM (fun j => ?_) (Or.inr ⟨rfl, fun _ => rfl⟩) Off.rf, fun q => absurd q (by omega)⟩
      rw [if_neg (by omega)]
    | succ d ih =>
      intro i hd hi
      exact v_X4_shareOut_4 ⟨_, _, _, _, _, _, _, _, hM.1, ⟨by omega, by omega⟩, fun q => absurd q (by omega), fun _ => c_movesInGroup hn hM ha (by omega) hG ⟨_, rfl, ih (i + 1) (by omega) (by omega)⟩⟩
  exact Ct.of (by decide +kernel) (Nat.le_of_ble_eq_true rfl) (v_X4_shareOut_0 (l4 n 0 rfl (Nat.zero_le _)))
theorem c_renew {m n lm ch k : Nat} {C T G P B : Nat → Nat} {mk gr : Nat → Option Nat} {kd so : Nat → Nat} (hn : 2 ≤ n ∧ n ≤ 6) (hM : MovAt h m n C T G P B lm ch) (hK : MkAt h k mk gr kd so) (hd : k + 5 ≤ m ∨ m + 6 ≤ k) (hgr : ∀ i s, i < 120 → gr i = some s → s < n) (hl : lm ≤ 50) (hP : ∀ i, i < 36 → P i < 2 ^ 31)
    (hp : ∀ h' C' T' G' P' B' ch', MovAt h' m n C' T' G' P' B' lm ch' → (∀ i, i < 36 → C' i = ct gr (i / 6) (i % 6) 110) → (∀ a, a < n → T' a = tot gr a 110) → (∀ s, s < n → G' s = gF T' lm n s) → (∀ a b, a < n → b < n → P' (a * 6 + b) = shT C' G' n a b) → (∀ a, a < n → B' a = max 1 (bt C' G' n a)) → (∀ i, i < 36 → P' i < 2 ^ 31) → ch' ≤ 1 → (ch' = 0 → ∀ i, P' i = P i) → Off m 6 h h' → post (some (.int (nI ch'))) h' nx) : Ct g M_X4_renew [.ref m, .ref k] h nx post := by
  refine Ct.of (by decide +kernel) (Nat.le_of_ble_eq_true rfl) (v_X4_renew_0 ⟨_, _, _, _, _, _, _, _, hM.1, ?_⟩)
  have hO0 : Off m 6 h (xup h m (xo 5 [.int (nI n), .ref (m + 1), .ref (m + 2), .ref (m + 3), .ref (m + 4), .ref (m + 5), .int (nI lm), .int (nI 0)])) := Off.rf.up (by omega) (by omega)
  refine c_countAll hn.2 (hM.setO (lm' := lm) (ch' := 0)) (hK.of hO0 (by omega)) hd hgr (fun h1 C1 T1 hM1 hC1 hT1 hO1 => ⟨rfl, _, _, _, _, _, _, _, _, hM1.1, ?_⟩)
  refine c_groupAll hn.2 hM1 (fun a ha => by rw [hT1 a ha]; exact tot_le 110) hl (fun h2 G2 hM2 hG2 hO2 => ⟨rfl, ?_⟩)
  have hbt : ∀ a, bt C1 G2 n a ≤ 110 := by
    intro a
    have h1 := bt_le (C := C1) (G := G2) (n := n) (a := a) hn.2
    have h2 : sm C1 36 = sm (fun i => ct gr (i / 6) (i % 6) 110) 36 := sm_congr hC1
    have h3 := ct_sum (gr := gr) 110
    omega
  have hGb : ∀ s, s < n → G2 s < 2 ^ 31 := by
    intro s hs
    have := gF_b (T := T1) (lm := lm) (n := n) (s := s) (by omega)
    rw [hG2 s hs]; omega
  have main : ∀ (d i ch' : Nat) (P' B' : Nat → Nat) (h' : xHp), n - i = d → i ≤ n → MovAt h' m n C1 T1 G2 P' B' lm ch' → (∀ a b, a < i → b < n → P' (a * 6 + b) = shT C1 G2 n a b) → (∀ a, a < i → B' a = max 1 (bt C1 G2 n a)) → (∀ i, i < 36 → P' i < 2 ^ 31) → ch' ≤ 1 → (ch' = 0 → ∀ j, P' j = P j) → Off m 6 h h' → Blk g M_X4_renew post 16 [(0, .ref m), (2, .int (nI i))] [] h' nx 0 0 := by
    intro d
    induction d with
    | zero =>
      intro i ch' P' B' h' hd' hi hM' hP' hB' hPb hc hc0 hO
      have hin : i = n := by omega
      subst hin
      exact v_X4_renew_16 ⟨_, _, _, _, _, _, _, _, hM'.1, ⟨by omega, by omega⟩, fun _ => ⟨hc, hp h' C1 T1 G2 P' B' ch' hM' hC1 hT1 hG2 hP' hB' hPb hc hc0 hO⟩, fun q => absurd q (by omega)⟩
    | succ d ih =>
      intro i ch' P' B' h' hd' hi hM' hP' hB' hPb hc hc0 hO
      refine v_X4_renew_16 ⟨_, _, _, _, _, _, _, _, hM'.1, ⟨by omega, by omega⟩, fun q => absurd q (by omega), fun _ => c_shareOut hn.2 hM' (by omega) hGb (by have := hbt i; omega) hPb (fun h3 P3 ch3 hM3 hP3 hc3 hO3 => ⟨rfl, ih (i + 1) ch3 P3 _ h3 (by omega) (by omega) hM3 (fun a b ha hb => ?_) (fun a ha => ?_) (fun j hj => ?_) ?_ (fun z j => ?_) (hO.tr hO3)⟩)⟩
      · rw [hP3]
        by_cases y : a = i
        · subst y
          rw [if_pos (by omega), Nat.add_sub_cancel_left]
        · rw [if_neg (by omega)]; exact hP' a b (by omega) hb
      · by_cases y : a = i
        · subst y; exact up_s
        · rw [up_n y]; exact hB' a (by omega)
      · rw [hP3]
        by_cases y : i * 6 ≤ j ∧ j < i * 6 + n
        · rw [if_pos y]
          have h1 := hbt i
          have h2 := mg_le (C := C1) (G := G2) (n := n) (a := i) (b := j - i * 6) (by omega)
          unfold shT
          split
          · split <;> omega
          · omega
        · rw [if_neg y]; exact hPb j hj
      · rcases hc3 with c | ⟨c, _⟩
        · omega
        · omega
      · rcases hc3 with c | ⟨c, c2⟩
        · omega
        · rw [c2 j]; exact hc0 (by omega) j
  refine main n 0 0 P B h2 rfl (Nat.zero_le _) hM2 (fun a b ha => absurd ha (by omega)) (fun a ha => absurd ha (by omega)) hP (by decide) (fun _ j => rfl) ((hO0.tr hO1).tr hO2)
abbrev glc (P B : Nat → Nat) (f : Nat) (d : Int64) (t : Nat) : Prop := (lN (sm (fun t => P (f * 6 + t)) (t + 1))) <<< ((nI 31).toInt64 &&& 63) ≤ d * (lN (B f))
theorem c_goal {m n lm ch f : Nat} {d : Int64} {C T G P B : Nat → Nat} (hn : 2 ≤ n ∧ n ≤ 6) (hM : MovAt h m n C T G P B lm ch) (hf : f < n) (hP : ∀ i, i < 36 → P i < 2 ^ 31) (hB : B f < 2 ^ 31) (hp : ∀ r, r < n → (∀ t, t < r → glc P B f d t) → (¬ glc P B f d r ∨ r = n - 1) → post (some (.int (nI r))) h nx) : Ct g M_X4_goal [.ref m, .int (nI f), .long d] h nx post := by
  have main : ∀ (k i : Nat), n - i = k → i ≤ n → (∀ t, t < i → glc P B f d t) → Blk g M_X4_goal post 6 [(0, .ref m), (1, .int (nI f)), (2, .long d), (4, .long (lN (sm (fun t => P (f * 6 + t)) i))), (6, .int (nI i))] [] h nx 0 0 := by
    intro k
    induction k with
    | zero =>
      intro i hk hi hc
      have hin : i = n := by omega
      subst hin
      exact v_X4_goal_6 ⟨_, _, _, _, _, _, _, _, hM.1, ⟨by omega, by omega⟩, fun _ => ⟨by omega, hp (i - 1) (by omega) (fun t ht => hc t (by omega)) (Or.inr rfl)⟩, fun q => absurd q (by omega)⟩
    | succ k ih =>
      intro i hk hi hc
      refine v_X4_goal_6 ⟨_, _, _, _, _, _, _, _, hM.1, ⟨by omega, by omega⟩, fun q => absurd q (by omega), fun _ => c_top hM (by omega) ⟨_, rfl, hP _ (by omega), _, _, _, _, _, _, _, _, hM.1, c_bottom hM (by omega) ⟨_, rfl, hB, fun q => ih (i + 1) (by omega) (by omega) (fun t ht => ?_), fun q => hp i (by omega) hc (Or.inl q)⟩⟩⟩
      by_cases z : t = i
      · subst z; exact q
      · exact hc t (by omega)
  exact Ct.of (by decide +kernel) (Nat.le_of_ble_eq_true rfl) (v_X4_goal_0 (main n 0 rfl (Nat.zero_le _) (fun t ht => absurd ht (by omega))))
end MOV2
