/-! Big: subtraction, comparison, making -/
section BIG4
variable {g : xG} {post : xPost} {h : xHp} {nx : Nat}
theorem n_le0 {a : Nat} (h : a < 2 ^ 31) : (0 : Int32) ≤ nI a := nI_pos' h
theorem n_subneg {x y b : Nat} (hx : x < 2 ^ 30) (hy : y + b < 2 ^ 30) (q : x < y + b) : ¬ (0 : Int32) ≤ nI x - nI y - nI b := by
  have e : nI x - nI y - nI b = nI x - nI (y + b) := by rw [← nI_add]; grind
  rw [e]
  exact Int32.not_le.mpr (pk_sneg hy q)
theorem n_subpos {x y b : Nat} (q : y + b ≤ x) : nI x - nI y - nI b = nI (x - y - b) := by rw [pk_sub (by omega), pk_sub (by omega)]
theorem n_subwrap {x y b c : Nat} (q : y + b ≤ x + c) : nI x - nI y - nI b + nI c = nI (x + c - y - b) := by
  have e : nI x - nI y - nI b + nI c = (nI x + nI c) - nI y - nI b := by grind
  rw [e, nI_add, n_subpos q]
theorem bv_substep {a E A b P x y r b' : Nat} (h : a + E = A + b * P) (e : r + y + b = x + b' * 1000000000) : (a + r * P) + (E + y * P) = (A + x * P) + b' * (P * 1000000000) := by
  have e2 : (r + y + b) * P = (x + b' * 1000000000) * P := by rw [e]
  grind
theorem l_trim {a N v : Nat} (h00 : xHp) (hN : N < 1048576) (hp : ∀ h', BigAt h' a N v → Off a 2 h00 h' → post none h' nx) : ∀ (u : Nat) (f : Nat → Nat) (h : xHp), BgH h a N u f → Off a 2 h00 h → u ≤ N → (∀ j, j < u → f j < 1000000000) → bv f u = v → Blk g M_X0_subtract post 58 [(0, .ref a)] [] h nx 0 0 := by
  intro u
  induction u with
  | zero =>
    intro f h hB hO hu hlt he
    exact v_X0_subtract_58 ⟨_, _, hB.1, by omega, fun _ => hp h ⟨0, f, hB, hu, hN, hlt, fun m hm => absurd hm (by omega), he⟩ hO, fun q => absurd q (by omega)⟩
  | succ u ih =>
    intro f h hB hO hu hlt he
    refine v_X0_subtract_58 ⟨_, _, hB.1, by omega, fun q => absurd q (by omega), fun _ => ⟨by omega, _, _, hB.2, by omega, by omega, ?_, fun q => ?_, fun q => ⟨by omega, ?_⟩⟩⟩
    · rw [Nat.add_sub_cancel]
      have := hlt u (by omega)
      omega
    · rw [Nat.add_sub_cancel] at q
      refine hp h ⟨u + 1, f, hB, hu, hN, hlt, fun m hm => ?_, he⟩ hO
      have : m = u := by omega
      subst this
      omega
    · rw [Nat.add_sub_cancel] at q ⊢
      refine ih f _ hB.setU (hO.up (by omega) (by omega)) (by omega) (fun j hj => hlt j (by omega)) ?_
      rw [← he]
      show bv f u = bv f u + f u * 1000000000 ^ u
      rw [q]
      omega
theorem l_sub {a b N Nb u w v V : Nat} {f0 e : Nat → Nat} (h00 : xHp) (hab : a + 2 ≤ b ∨ b + 2 ≤ a) (hu : u ≤ N ∧ N < 1048576) (hw : w ≤ u ∧ w ≤ Nb ∧ Nb < 1048576) (hE : BgH h00 b Nb w e) (hel : ∀ i, i < w → e i < 1000000000) (hd : ∀ i, i < u → f0 i < 1000000000) (hv : bv f0 u = v) (hV : bv e w = V) (hle : V ≤ v)
    (hp : ∀ h', BigAt h' a N (v - V) → Off a 2 h00 h' → post none h' nx) : ∀ (n i c : Nat) (f : Nat → Nat) (h : xHp), u - i = n → i ≤ u → BgH h a N u f → Off a 2 h00 h → (∀ j, i ≤ j → f j = f0 j) → (∀ j, j < i → f j < 1000000000) → c ≤ 1 → bv f i + bv (cut0 w e) i = bv f0 i + c * 1000000000 ^ i →
    Blk g M_X0_subtract post 4 [(0, .ref a), (1, .ref b), (2, .int (nI c)), (3, .int (nI i))] [] h nx 0 0 := by
  intro n
  induction n with
  | zero =>
    intro i c f h hn hi hB hO hf hlt hc he
    have : i = u := by omega
    subst this
    rw [bv_cut i hw.1, hv, hV] at he
    have hlt2 := bv_lt hlt
    have hc0 : c = 0 := by
      rcases Nat.eq_zero_or_pos c with z | z
      · exact z
      · have : c = 1 := by omega
        subst this
        omega
    subst hc0
    refine v_X0_subtract_4 ⟨_, _, hB.1, ⟨by omega, by omega⟩, fun _ => l_trim h00 hu.2 hp i f h hB hO hu.1 hlt (by omega), fun q => absurd q (by omega)⟩
  | succ n ih =>
    intro i c f h hn hi hB hO hf hlt hc he
    have hEh : BgH h b Nb w e := hE.off (hO b (by omega)) (hO (b + 1) (by omega))
    have hfi : f i = f0 i := hf i (Nat.le_refl _)
    have hdi := hd i (by omega)
    have hy : (if i < w then e i else 0) < 1000000000 := by
      by_cases q : i < w
      · rw [if_pos q]; exact hel i q
      · rw [if_neg q]; decide
    have next : ∀ (r c' : Nat), r < 1000000000 → c' ≤ 1 → r + (if i < w then e i else 0) + c = f0 i + c' * 1000000000 → Blk g M_X0_subtract post 4 [(0, .ref a), (1, .ref b), (2, .int (nI c')), (3, .int (nI (i + 1)))] [] (xup h (a + 1) (xna N (va_up f i r))) nx 0 0 := by
      intro r c' hr hc' hrc
      refine ih (i + 1) c' (va_up f i r) _ (by omega) (by omega) hB.setF (hO.up (by omega) (by omega)) (fun j hj => by rw [up_n (by omega)]; exact hf j (by omega)) (fun j hj => ?_) hc' ?_
      · by_cases q : j = i
        · subst q; rw [up_s]; exact hr
        · rw [up_n q]; exact hlt j (by omega)
      · show (bv (va_up f i r) i + va_up f i r i * 1000000000 ^ i) + (bv (cut0 w e) i + cut0 w e i * 1000000000 ^ i) = (bv f0 i + f0 i * 1000000000 ^ i) + c' * 1000000000 ^ (i + 1)
        rw [bv_up (Nat.le_refl _), up_s, Nat.pow_succ]
        exact bv_substep he hrc
    refine v_X0_subtract_4 ⟨_, _, hB.1, ⟨by omega, by omega⟩, fun q => absurd q (by omega), fun _ => ⟨_, _, hB.2, by omega, by omega, _, _, hEh.1, c_nine hEh hw.2 (by omega) ⟨_, rfl, fun q => ⟨_, _, hB.1, _, _, hB.2, ?_⟩, fun q => ⟨_, _, hB.1, _, _, hB.2, ?_⟩⟩⟩⟩
    · have hle2 : (if i < w then e i else 0) + c ≤ f i := by
        rcases Nat.lt_or_ge (f i) ((if i < w then e i else 0) + c) with y | y
        · exact absurd q (n_subneg (by omega) (by omega) y)
        · exact y
      refine ⟨f i - (if i < w then e i else 0) - c, by rw [n_subpos hle2]; exact nI_add _ 0, by omega, by omega, next _ 0 (by omega) (by omega) (by omega)⟩
    · have hlt3 : f i < (if i < w then e i else 0) + c := by
        rcases Nat.lt_or_ge (f i) ((if i < w then e i else 0) + c) with y | y
        · exact y
        · exact absurd (by rw [n_subpos y]; exact n_le0 (by omega)) q
      refine ⟨f i + 1000000000 - (if i < w then e i else 0) - c, n_subwrap (by omega), by omega, by omega, next _ 1 (by omega) (by omega) (by omega)⟩
theorem c_subtract {a b N Nb v w : Nat} (hA : BigAt h a N v) (hB : BigAt h b Nb w) (hab : a + 2 ≤ b ∨ b + 2 ≤ a) (hle : w ≤ v) (hp : ∀ h', BigAt h' a N (v - w) → Off a 2 h h' → post none h' nx) : Ct g M_X0_subtract [.ref a, .ref b] h nx post := by
  obtain ⟨u, f, hH, k1, k2, k3, k4, k5⟩ := hA
  obtain ⟨z, e, hE, m1, m2, m3, m4, m5⟩ := hB
  have hz : z ≤ u := bv_used m4 (by rw [m5]; exact Nat.lt_of_le_of_lt hle (by rw [← k5]; exact bv_lt k3))
  exact Ct.of (by decide +kernel) (Nat.le_of_ble_eq_true rfl) (v_X0_subtract_0 (l_sub h hab ⟨k1, k2⟩ ⟨hz, m1, m2⟩ hE m3 k3 k5 m5 hle hp u 0 0 f h (by omega) (by omega) hH Off.rf (fun _ _ => rfl) (fun j hj => absurd hj (by omega)) (by omega) (by show 0 + 0 = 0 + 0 * _; omega)))
def cmpN (v w : Nat) : Int32 := if v < w then -1 else if v = w then nI 0 else nI 1
theorem bv_digitlt {f e : Nat → Nat} {i : Nat} (hf : ∀ j, j < i → f j < 1000000000) (h : f i < e i) : bv f (i + 1) < bv e (i + 1) := by
  have h1 := bv_lt hf
  show bv f i + f i * 1000000000 ^ i < bv e i + e i * 1000000000 ^ i
  have h2 : (f i + 1) * 1000000000 ^ i ≤ e i * 1000000000 ^ i := Nat.mul_le_mul_right _ h
  rw [Nat.add_mul] at h2
  omega
theorem l_cmp {a b N Nb u v w : Nat} {f e : Nat → Nat} (hA : BgH h a N u f) (hB : BgH h b Nb u e) (hN : u ≤ N ∧ N < 1048576 ∧ u ≤ Nb ∧ Nb < 1048576) (hf : ∀ i, i < u → f i < 1000000000) (he : ∀ i, i < u → e i < 1000000000) (hp : post (some (.int (cmpN v w))) h nx) : ∀ (i H : Nat), i ≤ u → v = bv f i + H * 1000000000 ^ i → w = bv e i + H * 1000000000 ^ i → Blk g M_X0_compareWith post 35 [(0, .ref a), (1, .ref b), (2, .int (nI i - nI 1))] [] h nx 0 0 := by
  intro i
  induction i with
  | zero =>
    intro H hi h1 h2
    refine v_X0_compareWith_35 ⟨by decide, fun _ => ?_, fun q => absurd q (by omega)⟩
    have : v = w := h1.trans h2.symm
    subst this
    unfold cmpN at hp
    rw [if_neg (by omega), if_pos rfl] at hp
    exact hp
  | succ i ih =>
    intro H hi h1 h2
    have f1 := hf i (by omega)
    have e1 := he i (by omega)
    have hif : (if i < u then e i else 0) = e i := if_pos (by omega)
    have hx : ∀ P : xPost, P (some (.int (nI (e i)))) h nx → Ct g M_X0_nine [.ref b, .int (nI (i + 1) - nI 1)] h nx P := by
      intro P hP
      rw [pk_sub (by omega), Nat.add_sub_cancel]
      exact c_nine hB ⟨hN.2.2.1, hN.2.2.2⟩ (by omega) (by rw [hif]; exact hP)
    refine v_X0_compareWith_35 ⟨by omega, fun q => absurd q (by omega), fun _ => ⟨_, _, hA.1, _, _, hA.2, by omega, by omega, by omega, _, _, hB.1, hx _ ⟨_, rfl, ?_⟩⟩⟩
    rw [Nat.add_sub_cancel]
    refine ⟨⟨by omega, by omega⟩, fun q => ⟨by omega, ?_⟩, fun q => ⟨_, _, hA.1, _, _, hA.2, by omega, by omega, by omega, _, _, hB.1, hx _ ⟨_, rfl, ⟨by omega, by omega⟩, fun q2 => ?_, fun q2 => ?_⟩⟩⟩
    · refine ih (H * 1000000000 + f i) (by omega) ?_ ?_
      · rw [h1, Nat.pow_succ]
        show bv f i + f i * 1000000000 ^ i + _ = _
        grind
      · rw [h2, Nat.pow_succ, q]
        show bv e i + e i * 1000000000 ^ i + _ = _
        grind
    · have := bv_digitlt (f := e) (e := f) (i := i) (fun j hj => he j (by omega)) (by omega)
      unfold cmpN at hp
      rw [if_neg (by omega), if_neg (by omega)] at hp
      exact hp
    · have := bv_digitlt (f := f) (e := e) (i := i) (fun j hj => hf j (by omega)) q2
      unfold cmpN at hp
      rw [if_pos (by omega)] at hp
      exact hp
theorem c_compare {a b N Nb v w : Nat} (hA : BigAt h a N v) (hB : BigAt h b Nb w) (hp : post (some (.int (cmpN v w))) h nx) : Ct g M_X0_compareWith [.ref a, .ref b] h nx post := by
  obtain ⟨u, f, hH, k1, k2, k3, k4, k5⟩ := hA
  obtain ⟨z, e, hE, m1, m2, m3, m4, m5⟩ := hB
  refine Ct.of (by decide +kernel) (Nat.le_of_ble_eq_true rfl) (v_X0_compareWith_0 ⟨_, _, hH.1, _, _, hE.1, ⟨by omega, by omega⟩, fun q => ?_, fun q => ⟨⟨by omega, by omega⟩, fun q2 => ?_, fun q2 => ?_⟩⟩)
  · subst q
    exact l_cmp hH hE ⟨k1, k2, m1, m2⟩ k3 m3 hp u 0 (Nat.le_refl _) (by omega) (by omega)
  · obtain ⟨u', rfl⟩ : ∃ u', u = u' + 1 := ⟨u - 1, by omega⟩
    have h1 := bv_ge (k4 u' rfl)
    have h2 := bv_lt m3
    have h3 := BBmono (a := z) (b := u') (by omega)
    unfold cmpN at hp
    rw [if_neg (by omega), if_neg (by omega)] at hp
    exact hp
  · obtain ⟨z', rfl⟩ : ∃ z', z = z' + 1 := ⟨z - 1, by omega⟩
    have h1 := bv_ge (m4 z' rfl)
    have h2 := bv_lt k3
    have h3 := BBmono (a := u) (b := z') (by omega)
    unfold cmpN at hp
    rw [if_pos (by omega)] at hp
    exact hp
theorem c_BigInit {N : Nat} (a : Nat) (hnx : a + 1 = nx) (hN : 1 ≤ N ∧ N ≤ 112) (h0 : h a = some (xo 1 [.null, .int (nI 0)])) (hp : ∀ h', BigAt h' a N 0 → Off a 2 h h' → post none h' (nx + 1)) : Ct g M_X0_init [.ref a, .int (nI N)] h nx post := by
  have hm : max 1 N = N := Nat.max_eq_right hN.1
  refine Ct.of (by decide +kernel) (Nat.le_of_ble_eq_true rfl) (v_X0_init_0 ⟨⟨by decide, by omega⟩, ?_⟩)
  rw [hm]
  refine ⟨by omega, by decide, by omega, h0, by omega, by decide, by omega, ?_⟩
  subst hnx
  refine hp _ ⟨0, fun _ => 0, ⟨xup_s _ _ _, (xup_n (by omega)).trans (xup_s _ _ _)⟩, by omega, by omega, fun j hj => absurd hj (by omega), fun m hm => absurd hm (by omega), rfl⟩ ((Off.rf.up (by omega) (by omega)).up (by omega) (by omega))
end BIG4
