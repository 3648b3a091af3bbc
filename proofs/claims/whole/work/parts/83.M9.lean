/-! the reference: counts and groups -/
def bas (s : MV) (mk : Nat → Option Nat) (R : Rl) : Prop := (2 ≤ s.n ∧ s.n ≤ 6) ∧ (∀ i, i < 480 → s.mk i = oI (mk i)) ∧ (∀ i v, i < 480 → mk i = some v → v < s.n) ∧ rlR s.n s R
theorem bas_lt {s : MV} {mk : Nat → Option Nat} {R : Rl} (hB : bas s mk R) (hR : rlOK s.n R) {i v : Nat} (hi : i < 120) (h : agr mk R i = some v) : v < s.n := gr_lt (gr := agr mk R) hB.2.2.1 hR (fun _ _ => rfl) i v hi h
/-- closing decisions: which group, and where it begins -/
def kI (d : Nat → Bool) : Nat → Nat
  | 0 => 0
  | s + 1 => if d s then kI d s + 1 else kI d s
def fI (d : Nat → Bool) : Nat → Nat × Nat
  | 0 => (0, 0)
  | s + 1 => if d s then (s + 1, (fI d s).1) else fI d s
def opn (d : Nat → Bool) : Nat → Bool
  | 0 => false
  | s + 1 => !d s
theorem kI_s {d : Nat → Bool} {s : Nat} : kI d (s + 1) = if d s then kI d s + 1 else kI d s := rfl
theorem fI_s {d : Nat → Bool} {s : Nat} : fI d (s + 1) = if d s then (s + 1, (fI d s).1) else fI d s := rfl
theorem opn_s {d : Nat → Bool} {s : Nat} : opn d (s + 1) = !d s := rfl
def GF (d : Nat → Bool) (n s : Nat) : Nat := if opn d n = true ∧ 0 < kI d n ∧ kI d s = kI d n then kI d n - 1 else kI d s
def RF (d : Nat → Bool) (n s : Nat) : Nat := if (fI d n).1 < n ∧ (fI d s).1 = (fI d n).1 then (fI d n).2 else (fI d s).1
def dq (D : Nat) : Nat → Bool := fun s => D / 2 ^ s % 2 == 1
theorem grp_tab : ∀ D, D < 64 → ∀ n, n < 7 → ∀ s, s < n → ∀ t, t < n → (decide (GF (dq D) n s = GF (dq D) n t) == decide (RF (dq D) n s = RF (dq D) n t)) = true := by decide +kernel
theorem kI_congr {d d' : Nat → Bool} : ∀ {n : Nat}, (∀ i, i < n → d i = d' i) → kI d n = kI d' n
  | 0, _ => rfl
  | n + 1, h => by
    unfold kI
    rw [kI_congr (fun i hi => h i (by omega)), h n (by omega)]
theorem fI_congr {d d' : Nat → Bool} : ∀ {n : Nat}, (∀ i, i < n → d i = d' i) → fI d n = fI d' n
  | 0, _ => rfl
  | n + 1, h => by
    unfold fI
    rw [fI_congr (fun i hi => h i (by omega)), h n (by omega)]
theorem fI_b {d : Nat → Bool} : ∀ n, (fI d n).1 ≤ n ∧ (fI d n).2 ≤ n
  | 0 => ⟨Nat.le_refl _, Nat.le_refl _⟩
  | n + 1 => by
    have := fI_b (d := d) n
    unfold fI
    split
    · exact ⟨Nat.le_refl _, by show (fI d n).1 ≤ _; omega⟩
    · omega
def bn (b : Bool) : Nat := if b then 1 else 0
def enc (d : Nat → Bool) : Nat := bn (d 0) + 2 * bn (d 1) + 4 * bn (d 2) + 8 * bn (d 3) + 16 * bn (d 4) + 32 * bn (d 5)
theorem bn_le (b : Bool) : bn b ≤ 1 := by cases b <;> decide
theorem bn_b {b : Bool} {x : Nat} (h : x = bn b) : b = (x == 1) := by subst h; cases b <;> rfl
theorem dq_enc {d : Nat → Bool} : enc d < 64 ∧ ∀ i, i < 6 → d i = dq (enc d) i := by
  have h0 := bn_le (d 0); have h1 := bn_le (d 1); have h2 := bn_le (d 2); have h3 := bn_le (d 3); have h4 := bn_le (d 4); have h5 := bn_le (d 5)
  refine ⟨by unfold enc; omega, fun i hi => ?_⟩
  have : i = 0 ∨ i = 1 ∨ i = 2 ∨ i = 3 ∨ i = 4 ∨ i = 5 := by omega
  unfold dq
  rcases this with rfl | rfl | rfl | rfl | rfl | rfl
  · exact bn_b (by unfold enc; omega)
  · exact bn_b (by unfold enc; omega)
  · exact bn_b (by unfold enc; omega)
  · exact bn_b (by unfold enc; omega)
  · exact bn_b (by unfold enc; omega)
  · exact bn_b (by unfold enc; omega)
theorem opn_congr {d d' : Nat → Bool} : ∀ {n : Nat}, (∀ i, i < n → d i = d' i) → opn d n = opn d' n
  | 0, _ => rfl
  | n + 1, h => by
    rw [opn_s, opn_s, h n (by omega)]
theorem grp_eq {d : Nat → Bool} {n s t : Nat} (hn : n ≤ 6) (hs : s < n) (ht : t < n) : GF d n s = GF d n t ↔ RF d n s = RF d n t := by
  obtain ⟨h1, h2⟩ := dq_enc (d := d)
  have h3 := grp_tab (enc d) h1 n (by omega) s hs t ht
  have cg : ∀ u, u ≤ n → ∀ i, i < u → d i = dq (enc d) i := fun u hu i hi => h2 i (by omega)
  have eG : ∀ u, u ≤ n → GF d n u = GF (dq (enc d)) n u := by
    intro u hu
    unfold GF
    rw [opn_congr (cg n (Nat.le_refl _)), kI_congr (cg n (Nat.le_refl _)), kI_congr (cg u hu)]
  have eR : ∀ u, u ≤ n → RF d n u = RF (dq (enc d)) n u := by
    intro u hu
    unfold RF
    rw [fI_congr (cg n (Nat.le_refl _)), fI_congr (cg u hu)]
  rw [eG s (by omega), eG t (by omega), eR s (by omega), eR t (by omega)]
  rw [beq_iff_eq] at h3
  exact decide_eq_decide.mp h3
def dec (T : Nat → Nat) (lm : Nat) (s : Nat) : Bool := decide (lm ≤ (gsS T lm s).2.1 + T s)
theorem gsS_k {T : Nat → Nat} {lm : Nat} : ∀ s, (gsS T lm s).1 = kI (dec T lm) s ∧ ((gsS T lm s).2.2 = 0 ↔ opn (dec T lm) s = false)
  | 0 => ⟨rfl, ⟨fun _ => rfl, fun _ => rfl⟩⟩
  | s + 1 => by
    have ih := gsS_k (T := T) (lm := lm) s
    rw [gsS_s, kI_s, opn_s]
    by_cases q : lm ≤ (gsS T lm s).2.1 + T s
    · have e : dec T lm s = true := decide_eq_true q
      rw [if_pos q, e, if_pos rfl]
      exact ⟨by show (gsS T lm s).1 + 1 = _; rw [ih.1], ⟨fun _ => rfl, fun _ => rfl⟩⟩
    · have e : dec T lm s = false := decide_eq_false q
      rw [if_neg q, e, if_neg (by decide)]
      refine ⟨ih.1, ⟨fun z => ?_, fun z => ?_⟩⟩
      · replace z : (1 : Nat) = 0 := z
        omega
      · cases z
theorem gF_GF {T : Nat → Nat} {lm n s : Nat} : gF T lm n s = GF (dec T lm) n s := by
  unfold gF GF
  rw [(gsS_k n).1, (gsS_k s).1]
  have : ¬ (gsS T lm n).2.2 = 0 ↔ opn (dec T lm) n = true := by
    rw [(gsS_k n).2]
    simp
  simp only [this]
theorem ct_tot {gr : Nat → Option Nat} {n a : Nat} (h : ∀ i v, i < 120 → gr i = some v → v < n) : ∀ q, q ≤ 110 → sm (fun b => ct gr a b q) n = tot gr a q
  | 0, _ => sm_zero n
  | q + 1, hq => by
    rw [tot_s, ← ct_tot h q (by omega)]
    have e : sm (fun b => ct gr a b (q + 1)) n = sm (fun b => ct gr a b q) n + sm (fun b => if gr (q / 11 * 12 + q % 11) = some a ∧ gr (q / 11 * 12 + q % 11 + 1) = some b then 1 else 0) n := sm_add
    rw [e]
    congr 1
    by_cases z : gr (q / 11 * 12 + q % 11) = some a
    · match y : gr (q / 11 * 12 + q % 11 + 1) with
      | none =>
        rw [if_neg (fun x => by cases x.2)]
        rw [sm_congr (q := fun _ => 0) (fun b _ => if_neg (fun x => by cases x.2))]
        exact sm_zero n
      | some v =>
        have hv := h _ v (by omega) y
        rw [if_pos ⟨z, rfl⟩]
        rw [sm_congr (q := fun b => if b = v then 1 else 0) (fun b _ => ?_), sm_one, if_pos hv]
        by_cases x : b = v
        · subst x; rw [if_pos ⟨z, rfl⟩, if_pos rfl]
        · rw [if_neg (fun w => x (Option.some.inj w.2).symm), if_neg x]
    · rw [if_neg (fun x => z x.1), sm_congr (q := fun _ => 0) (fun b _ => if_neg (fun x => z x.1))]
      exact sm_zero n
/-- counts and groups say what grades say -/
def curM (s : MV) (gr : Nat → Option Nat) : Prop := (∀ i, i < 36 → s.ct i = aC gr i) ∧ (∀ a b, a < s.n → b < s.n → (s.gp a = s.gp b ↔ aG gr s.lm s.n a = aG gr s.lm s.n b)) ∧ ∀ a, a < s.n → s.gp a < 2 ^ 31
section M9
variable {g : xG} {Q : mQ} {s : MV} {x0 : Nat}
theorem g_gradeOf {t y : Nat} {mk : Nat → Option Nat} {R : Rl} (hB : bas s mk R) (ht : t < 10) (hy : y < 12) (hp : Q (some (.int (oI (agr mk R (t * 12 + y))))) s) : CtM g M_X10_gradeOf [.ref x0, .int (nI t), .int (nI y)] x0 s Q := by
  obtain ⟨b1, b2, b3, b4⟩ := hB
  have hm : ∀ p v, (if p < 4 then mk ((t * 12 + y) * 4 + p) else none) = some v → v < s.n := by
    intro p v h
    by_cases z : p < 4
    · rw [if_pos z] at h; exact b3 _ v (by omega) h
    · rw [if_neg z] at h; cases h
  refine m_gradeOf (m := fun p => if p < 4 then mk ((t * 12 + y) * 4 + p) else none) b1 b4 ht hy ⟨fun p hp => ?_, fun p v h => by have := hm p v h; omega⟩ hm ?_
  · show s.mk _ = oI (if p < 4 then mk ((t * 12 + y) * 4 + p) else none)
    rw [if_pos hp, ← b2 _ (by omega)]
    congr 1
    omega
  · unfold agr at hp
    rw [grd_congr (m' := fun p => if p < 4 then mk ((t * 12 + y) * 4 + p) else none) (fun p hp => (if_pos hp).symm)] at hp
    exact hp
theorem m_movesFrom {a : Nat} (hn : s.n ≤ 6) (ha : a < 6) (hp : Q (some (.int (nI (sm (fun b => s.ct (6 * a + b)) s.n)))) s) : CtM g M_X10_movesFrom [.ref x0, .int (nI a)] x0 s Q := by
  have main : ∀ (d b : Nat), b + d = s.n → BlkM g M_X10_movesFrom x0 Q 4 [(0, .ref x0), (1, .int (nI a)), (2, .int (nI (sm (fun b => s.ct (6 * a + b)) b))), (3, .int (nI b))] [] s := by
    intro d
    induction d with
    | zero =>
      intro b hb
      have : b = s.n := by omega
      subst this
      exact v_X10_movesFrom_4 ⟨⟨by omega, by omega⟩, fun _ => hp, fun q => absurd q (by omega)⟩
    | succ d ih =>
      intro b hb
      exact v_X10_movesFrom_4 ⟨⟨by omega, by omega⟩, fun q => absurd q (by omega), fun _ => ⟨by omega, ih (b + 1) (by omega)⟩⟩
  exact CtM.of (by decide +kernel) (Nat.le_of_ble_eq_true rfl) (v_X10_movesFrom_0 (main _ 0 (Nat.zero_add _)))
theorem m_countAll {mk : Nat → Option Nat} {R : Rl} (hB : bas s mk R) (hR : rlOK s.n R) (hlm : s.lm ≤ 50) (hp : ∀ C G, curM (MV.u_gp (MV.u_ct s C) G) (agr mk R) → Q none (MV.u_gp (MV.u_ct s C) G)) : CtM g M_X10_countAll [.ref x0] x0 s Q := by
  have b1 := hB.1
  have hgl : ∀ i v, i < 120 → agr mk R i = some v → v < s.n := fun i v hi h => bas_lt hB hR hi h
  -- the last loop
  have l4 : ∀ C : Nat → Nat, (∀ i, i < 36 → C i = aC (agr mk R) i) → ∀ (d k : Nat) (G : Nat → Nat), k + d = s.n → (∀ i, i < k → G i = RF (dec (aT (agr mk R)) s.lm) s.n i) → (∀ i, k ≤ i → i < s.n → G i = (fI (dec (aT (agr mk R)) s.lm) i).1) → BlkM g M_X10_countAll x0 Q 156 [(0, .ref x0), (1, .int (nI (fI (dec (aT (agr mk R)) s.lm) s.n).1)), (2, .int (nI (fI (dec (aT (agr mk R)) s.lm) s.n).2)), (4, .int (nI k))] [] (MV.u_gp (MV.u_ct s C) G) := by
    intro C hC d
    induction d with
    | zero =>
      intro k G hk h1 h2
      have : k = s.n := by omega
      subst this
      refine v_X10_countAll_156 ⟨⟨by omega, by show s.n < _; omega⟩, fun _ => hp C G ⟨hC, fun a b ha hb => ?_, fun a ha => ?_⟩, fun q => absurd q (by show ¬ s.n < s.n; omega)⟩
      · show G a = G b ↔ aG (agr mk R) s.lm s.n a = aG (agr mk R) s.lm s.n b
        rw [h1 a ha, h1 b hb]
        unfold aG
        rw [gF_GF, gF_GF]
        exact (grp_eq b1.2 ha hb).symm
      · show G a < _
        rw [h1 a ha]
        unfold RF
        have k1 := fI_b (d := dec (aT (agr mk R)) s.lm) s.n
        have k2 := fI_b (d := dec (aT (agr mk R)) s.lm) a
        replace ha : a < s.n := ha
        split <;> omega
    | succ d ih =>
      intro k G hk h1 h2
      have k1 := fI_b (d := dec (aT (agr mk R)) s.lm) s.n
      have k2 := fI_b (d := dec (aT (agr mk R)) s.lm) k
      have gk := h2 k (Nat.le_refl _) (by omega)
      have next : ∀ v, v = RF (dec (aT (agr mk R)) s.lm) s.n k → BlkM g M_X10_countAll x0 Q 156 [(0, .ref x0), (1, .int (nI (fI (dec (aT (agr mk R)) s.lm) s.n).1)), (2, .int (nI (fI (dec (aT (agr mk R)) s.lm) s.n).2)), (4, .int (nI (k + 1)))] [] (MV.u_gp (MV.u_ct s C) (va_up G k v)) := by
        intro v hv
        refine ih (k + 1) (va_up G k v) (by omega) (fun i hi => ?_) (fun i hi hi2 => ?_)
        · by_cases z : i = k
          · subst z; rw [up_s]; exact hv
          · rw [up_n z]; exact h1 i (by omega)
        · rw [up_n (by omega)]; exact h2 i (by omega) hi2
      refine v_X10_countAll_156 ⟨⟨by omega, by show s.n < _; omega⟩, fun q => absurd q (by show ¬ s.n ≤ k; omega), fun _ => ⟨⟨by omega, by show s.n < _; omega⟩, fun q => ⟨by omega, by omega, next _ ?_⟩, fun q => ⟨by omega, ⟨by show G k < _; omega, by omega⟩, fun q2 => ⟨by omega, by omega, next _ ?_⟩, fun q2 => ⟨by omega, next _ ?_⟩⟩⟩⟩
      · show G k = _
        replace q : s.n ≤ (fI (dec (aT (agr mk R)) s.lm) s.n).1 := q
        unfold RF
        rw [if_neg (by omega)]; exact gk
      · show G k = _
        replace q2 : ¬ G k = (fI (dec (aT (agr mk R)) s.lm) s.n).1 := q2
        unfold RF
        rw [if_neg (by omega)]; exact gk
      · replace q2 : G k = (fI (dec (aT (agr mk R)) s.lm) s.n).1 := q2
        replace q : (fI (dec (aT (agr mk R)) s.lm) s.n).1 < s.n := q
        unfold RF
        rw [if_pos (by omega)]
  have l3 : ∀ C : Nat → Nat, (∀ i, i < 36 → C i = aC (agr mk R) i) → ∀ (d k : Nat) (G : Nat → Nat), k + d = s.n → (∀ i, i < k → G i = (fI (dec (aT (agr mk R)) s.lm) i).1) → BlkM g M_X10_countAll x0 Q 104 [(0, .ref x0), (1, .int (nI (fI (dec (aT (agr mk R)) s.lm) k).1)), (2, .int (nI (fI (dec (aT (agr mk R)) s.lm) k).2)), (3, .int (nI (gsS (aT (agr mk R)) s.lm k).2.1)), (4, .int (nI k))] [] (MV.u_gp (MV.u_ct s C) G) := by
    intro C hC d
    induction d with
    | zero =>
      intro k G hk h1
      have : k = s.n := by omega
      subst this
      exact v_X10_countAll_104 ⟨⟨by omega, by show s.n < _; omega⟩, fun _ => l4 C hC s.n 0 G (by omega) (fun i hi => absurd hi (by omega)) (fun i _ hi => h1 i hi), fun q => absurd q (by show ¬ s.n < s.n; omega)⟩
    | succ d ih =>
      intro k G hk h1
      have hT : sm (fun b => C (6 * k + b)) s.n = aT (agr mk R) k := by
        unfold aT
        rw [← ct_tot hgl 110 (by decide)]
        refine sm_congr fun b hb => ?_
        rw [hC _ (by omega)]
        unfold aC
        rw [show (6 * k + b) / 6 = k by omega, show (6 * k + b) % 6 = b by omega]
      have hb1 := gsS_b (T := aT (agr mk R)) (lm := s.lm) k
      have hb2 : aT (agr mk R) k ≤ 110 := tot_le 110
      refine v_X10_countAll_104 ⟨⟨by omega, by show s.n < _; omega⟩, fun q => absurd q (by show ¬ s.n ≤ k; omega), fun _ => ⟨by omega, ?_⟩⟩
      refine m_movesFrom (s := (MV.u_gp (MV.u_ct s C) (va_up G k (fI (dec (aT (agr mk R)) s.lm) k).1))) b1.2 (by omega) ⟨_, rfl, ?_⟩
      have e : sm (fun b => MV.ct (MV.u_gp (MV.u_ct s C) (va_up G k (fI (dec (aT (agr mk R)) s.lm) k).1)) (6 * k + b)) (MV.n (MV.u_gp (MV.u_ct s C) (va_up G k (fI (dec (aT (agr mk R)) s.lm) k).1))) = aT (agr mk R) k := hT
      rw [e]
      have nx := ih (k + 1) (va_up G k (fI (dec (aT (agr mk R)) s.lm) k).1) (by omega) (fun i hi => by
        by_cases z : i = k
        · subst z; exact up_s
        · rw [up_n z]; exact h1 i (by omega))
      refine ⟨⟨by omega, by show s.lm < _; omega⟩, fun q => ?_, fun q => ?_⟩
      · replace q : (gsS (aT (agr mk R)) s.lm k).2.1 + aT (agr mk R) k < s.lm := q
        have e2 : dec (aT (agr mk R)) s.lm k = false := decide_eq_false (by omega)
        have e3 : fI (dec (aT (agr mk R)) s.lm) (k + 1) = fI (dec (aT (agr mk R)) s.lm) k := by rw [fI_s, e2]; rfl
        have e4 : (gsS (aT (agr mk R)) s.lm (k + 1)).2.1 = (gsS (aT (agr mk R)) s.lm k).2.1 + aT (agr mk R) k := by rw [gsS_s, if_neg (by omega)]
        rw [e3, e4] at nx
        exact nx
      · replace q : s.lm ≤ (gsS (aT (agr mk R)) s.lm k).2.1 + aT (agr mk R) k := q
        have e2 : dec (aT (agr mk R)) s.lm k = true := decide_eq_true q
        have e3 : fI (dec (aT (agr mk R)) s.lm) (k + 1) = (k + 1, (fI (dec (aT (agr mk R)) s.lm) k).1) := by rw [fI_s, e2]; rfl
        have e4 : (gsS (aT (agr mk R)) s.lm (k + 1)).2.1 = 0 := by rw [gsS_s, if_pos q]
        rw [e3, e4] at nx
        exact nx
  have hBs : ∀ C, bas (MV.u_ct s C) mk R := fun C => hB
  have l2 : ∀ (w t : Nat) (C : Nat → Nat), t + w = 10 → (∀ i, i < 36 → C i = ct (agr mk R) (i / 6) (i % 6) (t * 11)) → BlkM g M_X10_countAll x0 Q 23 [(0, .ref x0), (1, .int (nI t))] [] (MV.u_ct s C) := by
    intro w
    induction w with
    | zero =>
      intro t C hw hC
      have : t = 10 := by omega
      subst this
      exact v_X10_countAll_23 ⟨⟨by decide, by decide⟩, fun _ => l3 C hC s.n 0 s.gp (by omega) (fun i hi => absurd hi (by omega)), fun q => absurd q (by decide)⟩
    | succ w ih =>
      intro t C hw hC
      have inner : ∀ (v y : Nat) (C : Nat → Nat), y + v = 11 → (∀ i, i < 36 → C i = ct (agr mk R) (i / 6) (i % 6) (t * 11 + y)) → BlkM g M_X10_countAll x0 Q 31 [(0, .ref x0), (1, .int (nI t)), (2, .int (nI y))] [] (MV.u_ct s C) := by
        intro v
        induction v with
        | zero =>
          intro y C hv hC
          have : y = 11 := by omega
          subst this
          refine v_X10_countAll_31 ⟨⟨by decide, by decide⟩, fun _ => ih (t + 1) C (by omega) (fun i hi => ?_), fun q => absurd q (by decide)⟩
          rw [hC i hi]
          congr 1
          omega
        | succ v ihv =>
          intro y C hv hC
          have hq1 : (t * 11 + y) / 11 * 12 + (t * 11 + y) % 11 = t * 12 + y := by omega
          have same' : (∀ a b, a < 6 → b < 6 → ¬ (agr mk R (t * 12 + y) = some a ∧ agr mk R (t * 12 + y + 1) = some b)) → BlkM g M_X10_countAll x0 Q 31 [(0, .ref x0), (1, .int (nI t)), (2, .int (nI (y + 1)))] [] (MV.u_ct s C) := by
            intro hno
            refine ihv (y + 1) C (by omega) (fun i hi => ?_)
            rw [show t * 11 + (y + 1) = (t * 11 + y) + 1 by omega, ct_s, hq1, if_neg (hno _ _ (by omega) (by omega)), hC i hi]
            rfl
          refine v_X10_countAll_31 ⟨⟨by omega, by decide⟩, fun q => absurd q (by omega), fun _ => g_gradeOf (hBs C) (by omega) (by omega) ⟨_, rfl, g_gradeOf (hBs C) (by omega) (by omega) ⟨_, rfl, ?_⟩⟩⟩
          have ex : t * 12 + (y + 1) = t * 12 + y + 1 := by omega
          rw [ex]
          refine ⟨fun q => ?_, fun q => ⟨fun q2 => ?_, fun q2 => ?_⟩⟩
          · have z := (oI_m1 (fun v h => by have := hgl _ v (by omega) h; omega)).mp q
            exact same' (fun a b _ _ h => by rw [z] at h; cases h.1)
          · have z := (oI_m1 (fun v h => by have := hgl _ v (by omega) h; omega)).mp q2
            exact same' (fun a b _ _ h => by rw [z] at h; cases h.2)
          · obtain ⟨a, ha⟩ := oI_nm1 q
            obtain ⟨b, hb⟩ := oI_nm1 q2
            have la := hgl _ a (by omega) ha
            have lb := hgl _ b (by omega) hb
            have ei : nI 6 * oI (agr mk R (t * 12 + y)) + oI (agr mk R (t * 12 + y + 1)) = nI (6 * a + b) := by
              rw [ha, hb]
              show nI 6 * nI a + nI b = _
              rw [pk_mul, nI_add]
            refine ⟨6 * a + b, ei, by omega, 6 * a + b, ei, by omega, ?_⟩
            refine ihv (y + 1) (va_up C (6 * a + b) (C (6 * a + b) + 1)) (by omega) (fun i hi => ?_)
            rw [show t * 11 + (y + 1) = (t * 11 + y) + 1 by omega, ct_s, hq1, ha, hb]
            by_cases z : i = 6 * a + b
            · subst z
              rw [up_s, if_pos ⟨by congr 1; omega, by congr 1; omega⟩, hC _ hi]
            · rw [up_n z, if_neg (fun h => z (by have h1 := Option.some.inj h.1; have h2 := Option.some.inj h.2; omega)), hC i hi]
              rfl
      exact v_X10_countAll_23 ⟨⟨by omega, by decide⟩, fun q => absurd q (by omega), fun _ => inner 11 0 C (by decide) hC⟩
  have l1 : ∀ (w i : Nat) (C : Nat → Nat), i + w = 36 → (∀ j, j < i → C j = 0) → BlkM g M_X10_countAll x0 Q 2 [(0, .ref x0), (1, .int (nI i))] [] (MV.u_ct s C) := by
    intro w
    induction w with
    | zero =>
      intro i C hw h1
      have : i = 36 := by omega
      subst this
      exact v_X10_countAll_2 ⟨⟨by decide, by decide⟩, fun _ => l2 10 0 C (by decide) (fun j hj => h1 j hj), fun q => absurd q (by decide)⟩
    | succ w ih =>
      intro i C hw h1
      refine v_X10_countAll_2 ⟨⟨by omega, by decide⟩, fun q => absurd q (by omega), fun _ => ⟨by omega, ih (i + 1) (va_up C i 0) (by omega) (fun j hj => ?_)⟩⟩
      by_cases z : j = i
      · subst z; exact up_s
      · rw [up_n z]; exact h1 j (by omega)
  exact CtM.of (by decide +kernel) (Nat.le_of_ble_eq_true rfl) (v_X10_countAll_0 (l1 36 0 s.ct (by decide) (fun j hj => absurd hj (by omega))))
end M9
