/-! Big: products added, subtraction, comparison, making -/
section BIG3
variable {g : xG} {post : xPost} {h : xHp} {nx : Nat}
/-- the other's places times a factor, moved up -/
def shf (up w k : Nat) (e : Nat → Nat) : Nat → Nat := fun j => if up ≤ j ∧ j < w + up then e (j - up) * k else 0
theorem bv_shf0 {up w k : Nat} {e : Nat → Nat} : ∀ n, n ≤ up → bv (shf up w k e) n = 0
  | 0, _ => rfl
  | n + 1, h => by
    show bv (shf up w k e) n + shf up w k e n * 1000000000 ^ n = 0
    rw [bv_shf0 n (by omega), show shf up w k e n = 0 from if_neg (by omega)]
    omega
theorem bv_shf {up w k : Nat} {e : Nat → Nat} : ∀ n, n ≤ w → bv (shf up w k e) (n + up) = bv e n * k * 1000000000 ^ up
  | 0, _ => by
    rw [Nat.zero_add, bv_shf0 up (Nat.le_refl _)]
    show 0 = 0 * k * _
    omega
  | n + 1, h => by
    rw [show n + 1 + up = n + up + 1 by omega]
    show bv (shf up w k e) (n + up) + shf up w k e (n + up) * 1000000000 ^ (n + up) = (bv e n + e n * 1000000000 ^ n) * k * 1000000000 ^ up
    rw [bv_shf n (by omega), show shf up w k e (n + up) = e n * k from (if_pos (by omega)).trans (by rw [Nat.add_sub_cancel]), Nat.pow_add]
    grind
theorem bv_shfE {up w k : Nat} {e : Nat → Nat} : ∀ n, w + up ≤ n → bv (shf up w k e) n = bv e w * k * 1000000000 ^ up
  | 0, h => by
    have e1 : w = 0 := by omega
    have e2 : up = 0 := by omega
    subst e1; subst e2
    show 0 = 0 * k * 1
    omega
  | n + 1, h => by
    by_cases q : w + up = n + 1
    · rw [← q]; exact bv_shf w (Nat.le_refl _)
    · show bv (shf up w k e) n + shf up w k e n * 1000000000 ^ n = _
      rw [bv_shfE n (by omega), show shf up w k e n = 0 from if_neg (by omega)]
      omega
theorem bv_addstep {a c P A E F G q r : Nat} (h : a + c * P = A + E) (e : c + F + G = q * 1000000000 + r) : (a + r * P) + q * (P * 1000000000) = (A + F * P) + (E + G * P) := by
  have e2 : (c + F + G) * P = (q * 1000000000 + r) * P := by rw [e]
  grind
/-- addProduct, from place i on -/
theorem l_addp {a b N Nb u w k up v V : Nat} {f0 e : Nat → Nat} (h00 : xHp) (hab : a + 2 ≤ b ∨ b + 2 ≤ a) (hk : 0 < k ∧ k < 1000000000) (hu : u ≤ N ∧ N < 1048576) (hw : w + up ≤ N ∧ 0 < w ∧ w ≤ Nb ∧ Nb < 1048576) (hE : BgH h00 b Nb w e) (hel : ∀ i, i < w → e i < 1000000000) (het : topOk e w) (hd : ∀ i, i < u → f0 i < 1000000000) (ht : topOk f0 u) (hv : bv f0 u = v) (hV : v + bv e w * k * 1000000000 ^ up = V) (hVN : V < 1000000000 ^ N)
    (hp : ∀ h', BigAt h' a N V → Off a 2 h00 h' → post none h' nx) : ∀ (n i c : Nat) (f : Nat → Nat) (h : xHp), N - i = n → i ≤ N → up ≤ i → BgH h a N u f → Off a 2 h00 h → (∀ j, i ≤ j → f j = f0 j) → (∀ j, j < i → f j < 1000000000) → c < 1000000000 → bv f i + c * 1000000000 ^ i = bv (cut0 u f0) i + bv (shf up w k e) i → (i ≤ max u (w + up) ∨ (c = 0 ∧ 1000000000 ^ (i - 1) ≤ bv f i)) →
    Blk g M_X0_addProduct post 66 [(0, .ref a), (1, .ref b), (2, .int (nI k)), (3, .int (nI up)), (4, .int (nI (w + up))), (5, .long (lN c)), (7, .int (nI i))] [] h nx 0 0 := by
  have hVtop : 1000000000 ^ (w + up - 1) ≤ V := by
    obtain ⟨w', rfl⟩ : ∃ w', w = w' + 1 := ⟨w - 1, by omega⟩
    have h1 := bv_ge (het w' rfl)
    have h2 : 1000000000 ^ w' * 1 ≤ bv e (w' + 1) * k := Nat.mul_le_mul h1 hk.1
    have h3 : 1000000000 ^ w' * 1 * 1000000000 ^ up ≤ bv e (w' + 1) * k * 1000000000 ^ up := Nat.mul_le_mul_right _ h2
    rw [Nat.mul_one, ← Nat.pow_add] at h3
    rw [show w' + 1 + up - 1 = w' + up by omega]
    omega
  -- the end: all places stand
  have fin : ∀ (i : Nat) (f : Nat → Nat) (h : xHp), i ≤ N → w + up ≤ i → BgH h a N u f → Off a 2 h00 h → (∀ j, i ≤ j → f j = f0 j) → (∀ j, j < i → f j < 1000000000) → bv f i = bv (cut0 u f0) i + bv (shf up w k e) i → (i ≤ max u (w + up) ∨ 1000000000 ^ (i - 1) ≤ bv f i) → post none (xup h a (xo 1 [.ref (a + 1), .int (nI (max u i))])) nx := by
    intro i f h hi hiw hB hO hf hlt he hs
    rw [bv_shfE i hiw] at he
    have hval : bv f (max u i) = V := by
      rcases Nat.le_total u i with q | q
      · rw [Nat.max_eq_right q, he, bv_cut i q, hv, hV]
      · rw [Nat.max_eq_left q]
        have x1 : ∀ n, i ≤ n → n ≤ u → bv f n = bv f0 n + bv e w * k * 1000000000 ^ up := by
          intro n hn hnu
          induction n with
          | zero =>
            have : i = 0 := by omega
            subst this
            rw [he, bv_cut_le (Nat.zero_le _)]
          | succ n ihn =>
            by_cases z : i = n + 1
            · subst z
              rw [he, bv_cut_le hnu]
            · show bv f n + f n * 1000000000 ^ n = bv f0 n + f0 n * 1000000000 ^ n + _
              rw [ihn (by omega) (by omega), hf n (by omega)]
              omega
        rw [x1 u q (Nat.le_refl _), hv, hV]
    have hdig : ∀ j, j < max u i → f j < 1000000000 := by
      intro j hj
      rcases Nat.lt_or_ge j i with q | q
      · exact hlt j q
      · rw [hf j q]
        exact hd j (by omega)
    refine hp _ ⟨max u i, f, hB.setU, by omega, hu.2, hdig, fun m hm => ?_, hval⟩ (hO.up (by omega) (by omega))
    rw [hm] at hval hdig
    refine bv_top hdig ?_
    rw [hval]
    rcases Nat.lt_or_ge i u with q | q
    · have hm2 : u = m + 1 := by omega
      have := bv_ge (ht m hm2)
      rw [← hm2, hv] at this
      omega
    · have hm2 : i = m + 1 := by omega
      rcases hs with s | s
      · rcases Nat.lt_or_ge (w + up) i with y | y
        · have : u = m + 1 := by omega
          have z := bv_ge (ht m this)
          rw [← this, hv] at z
          omega
        · have : w + up - 1 = m := by omega
          rw [this] at hVtop
          exact hVtop
      · rw [hm2, Nat.add_sub_cancel] at s
        have : bv f (m + 1) = V := hval
        omega
  have cNz : ∀ (c : Nat) (f : Nat → Nat), bv f N + c * 1000000000 ^ N = bv (cut0 u f0) N + bv (shf up w k e) N → c = 0 := by
    intro c f he
    rw [bv_cut N hu.1, bv_shfE N hw.1, hv, hV] at he
    rcases Nat.eq_zero_or_pos c with z | z
    · exact z
    · have : 1 * 1000000000 ^ N ≤ c * 1000000000 ^ N := Nat.mul_le_mul_right _ z
      omega
  intro n
  induction n with
  | zero =>
    intro i c f h hn hi hui hB hO hf hlt hc he hs
    have : i = N := by omega
    subst this
    have hc0 := cNz c f he
    subst hc0
    refine v_X0_addProduct_66 ⟨_, _, hB.1, _, _, hB.2, ⟨by omega, by omega⟩, fun _ => ⟨⟨by omega, by omega⟩, fin i f h (Nat.le_refl _) hw.1 hB hO hf hlt (by omega) (by rcases hs with s | s; exact Or.inl s; exact Or.inr s.2)⟩, fun q => absurd q (by omega)⟩
  | succ n ih =>
    intro i c f h hn hi hui hB hO hf hlt hc he hs
    have step : (max u (w + up) ≤ i → 0 < c) → Blk g M_X0_addProduct post 90 [(0, .ref a), (1, .ref b), (2, .int (nI k)), (3, .int (nI up)), (4, .int (nI (w + up))), (5, .long (lN c)), (7, .int (nI i))] [] h nx 0 0 := by
      intro hc1
      have hEh : BgH h b Nb w e := hE.off (hO b (by omega)) (hO (b + 1) (by omega))
      have hs2 : i < max u (w + up) ∨ (max u (w + up) ≤ i ∧ cut0 u f0 i = 0 ∧ shf up w k e i = 0) := by
        rcases Nat.lt_or_ge i (max u (w + up)) with q | q
        · exact Or.inl q
        · exact Or.inr ⟨q, if_neg (by omega), if_neg (by omega)⟩
      have body : ∀ S : Nat, c + cut0 u f0 i + shf up w k e i = S → S < 1000000000 * 1000000000 → (max u (w + up) ≤ i → 0 < c) → ∀ (L5 : Nat), L5 = S / 1000000000 → ∀ D : Nat, D = S - S / 1000000000 * 1000000000 →
          Blk g M_X0_addProduct post 66 [(0, .ref a), (1, .ref b), (2, .int (nI k)), (3, .int (nI up)), (4, .int (nI (w + up))), (5, .long (lN L5)), (7, .int (nI (i + 1)))] [] (xup h (a + 1) (xna N (va_up f i D))) nx 0 0 := by
        intro S hS hSl hcp L5 h5 D hD
        subst h5
        have hDm : D = S % 1000000000 := by omega
        subst hDm
        have hrlt : S % 1000000000 < 1000000000 := Nat.mod_lt _ (by decide)
        refine ih (i + 1) _ (va_up f i (S % 1000000000)) _ (by omega) (by omega) (by omega) hB.setF (hO.up (by omega) (by omega)) ?_ ?_ (Nat.div_lt_of_lt_mul hSl) ?_ ?_
        · intro j hj
          rw [up_n (by omega)]
          exact hf j (by omega)
        · intro j hj
          by_cases q : j = i
          · subst q; rw [up_s]; exact hrlt
          · rw [up_n q]; exact hlt j (by omega)
        · show (bv (va_up f i (S % 1000000000)) i + va_up f i (S % 1000000000) i * 1000000000 ^ i) + S / 1000000000 * 1000000000 ^ (i + 1) = (bv (cut0 u f0) i + cut0 u f0 i * 1000000000 ^ i) + (bv (shf up w k e) i + shf up w k e i * 1000000000 ^ i)
          rw [bv_up (Nat.le_refl _), up_s, Nat.pow_succ]
          exact bv_addstep he (by omega)
        · rcases hs2 with q | ⟨q, z1, z2⟩
          · exact Or.inl q
          · have hc1 := hcp q
            rw [z1, z2] at hS
            have hSc : S = c := by omega
            subst hSc
            refine Or.inr ⟨by omega, ?_⟩
            rw [Nat.add_sub_cancel]
            exact bv_ge (by rw [up_s]; omega)
      have hsh : i < w + up → shf up w k e i = e (i - up) * k := fun q => if_pos ⟨hui, q⟩
      have hsl : i < w + up → e (i - up) * k ≤ (1000000000 - 1) * (1000000000 - 1) := fun q => Nat.mul_le_mul (by have := hel (i - up) (by omega); omega) (by omega)
      have hf0 : f i = f0 i := hf i (Nat.le_refl _)
      refine v_X0_addProduct_90 ⟨_, _, hB.1, ⟨by omega, by omega⟩, fun q => ⟨⟨by omega, by omega⟩, fun q2 => ?_, fun q2 => ?_⟩, fun q => ⟨_, _, hB.2, by omega, by omega, by have := hd i q; omega, ⟨by omega, by omega⟩, fun q2 => ?_, fun q2 => ?_⟩⟩
      · refine ⟨⟨by omega, by decide, by decide⟩, Nat.div_mul_le_self _ _, _, _, hB.2, by omega, by omega, body (c + 0) ?_ (by omega) hc1 _ rfl _ rfl⟩
        rw [show cut0 u f0 i = 0 from if_neg (by omega), show shf up w k e i = 0 from if_neg (by omega)]
      · have z := hsl q2
        have y := hel (i - up) (by omega)
        refine ⟨_, _, hEh.1, hui, _, _, hEh.2, by omega, by omega, by omega, by omega, ⟨by omega, by decide, by decide⟩, Nat.div_mul_le_self _ _, _, _, hB.2, by omega, by omega, body (c + 0 + e (i - up) * k) ?_ (by omega) hc1 _ rfl _ rfl⟩
        rw [show cut0 u f0 i = 0 from if_neg (by omega), hsh q2]
      · have y := hd i q
        refine ⟨⟨by omega, by decide, by decide⟩, Nat.div_mul_le_self _ _, by omega, by omega, body (c + f i) ?_ (by omega) hc1 _ rfl _ rfl⟩
        rw [show cut0 u f0 i = f0 i from if_pos q, show shf up w k e i = 0 from if_neg (by omega), hf0]
        rfl
      · have z := hsl q2
        have y := hel (i - up) (by omega)
        have x := hd i q
        refine ⟨_, _, hEh.1, hui, _, _, hEh.2, by omega, by omega, by omega, by omega, ⟨by omega, by decide, by decide⟩, Nat.div_mul_le_self _ _, by omega, by omega, body (c + f i + e (i - up) * k) ?_ (by omega) hc1 _ rfl _ rfl⟩
        rw [show cut0 u f0 i = f0 i from if_pos q, hsh q2, hf0]
    refine v_X0_addProduct_66 ⟨_, _, hB.1, _, _, hB.2, ⟨by omega, by omega⟩, fun q => absurd q (by omega), fun q => ⟨⟨by omega, by omega⟩, fun q2 => step (fun y => absurd y (by omega)), fun q2 => ⟨⟨by omega, by decide⟩, fun q3 => ?_, fun q3 => step (fun _ => q3)⟩⟩⟩
    have : c = 0 := by omega
    subst this
    exact ⟨⟨by omega, by omega⟩, fin i f h hi q2 hB hO hf hlt (by omega) (by rcases hs with s | s; exact Or.inl s; exact Or.inr s.2)⟩
/-- the places between the used ones and the first to be added to -/
theorem l_addz {a b N Nb u w k up v V : Nat} {f0 e : Nat → Nat} (h00 : xHp) (hab : a + 2 ≤ b ∨ b + 2 ≤ a) (hk : 0 < k ∧ k < 1000000000) (hu : u ≤ N ∧ N < 1048576) (hw : w + up ≤ N ∧ 0 < w ∧ w ≤ Nb ∧ Nb < 1048576) (hE : BgH h00 b Nb w e) (hel : ∀ i, i < w → e i < 1000000000) (het : topOk e w) (hd : ∀ i, i < u → f0 i < 1000000000) (ht : topOk f0 u) (hv : bv f0 u = v) (hV : v + bv e w * k * 1000000000 ^ up = V) (hVN : V < 1000000000 ^ N)
    (hp : ∀ h', BigAt h' a N V → Off a 2 h00 h' → post none h' nx) : ∀ (n i : Nat) (f : Nat → Nat) (h : xHp), up - i = n → u ≤ i → (i ≤ up ∨ i = u) → BgH h a N u f → Off a 2 h00 h → (∀ j, j < u → f j = f0 j) → (∀ j, u ≤ j → j < i → f j = 0) →
    Blk g M_X0_addProduct post 22 [(0, .ref a), (1, .ref b), (2, .int (nI k)), (3, .int (nI up)), (4, .int (nI i))] [] h nx 0 0 := by
  intro n
  induction n with
  | zero =>
    intro i f h hn hi hi2 hB hO hf hz
    have hEh : BgH h b Nb w e := hE.off (hO b (by omega)) (hO (b + 1) (by omega))
    refine v_X0_addProduct_22 ⟨⟨by omega, by omega⟩, fun q => ⟨_, _, hEh.1, ?_⟩, fun q => absurd q (by omega)⟩
    -- from here on the places of f0 are those of f, cut
    have hc : ∀ j, j < up → f j = cut0 u f0 j := by
      intro j hj
      rcases Nat.lt_or_ge j u with y | y
      · rw [hf j y]; exact (if_pos y).symm
      · rw [hz j y (by omega)]; exact (if_neg (by omega)).symm
    have hcu : bv (cut0 u f) up = bv f up := bv_congr fun j hj => by
      rcases Nat.lt_or_ge j u with y | y
      · exact if_pos y
      · rw [hz j y (by omega)]; exact if_neg (by omega)
    have hu0 : bv f u = v := by rw [← hv]; exact bv_congr hf
    refine l_addp (f0 := f) h00 hab hk hu hw hE hel het (fun j hj => by rw [hf j hj]; exact hd j hj) (fun m hm => by rw [hf m (by omega)]; exact ht m hm) hu0 hV hVN hp (N - up) up 0 f h rfl (by omega) (Nat.le_refl _) hB hO (fun _ _ => rfl) (fun j hj => ?_) (by decide) ?_ (Or.inl (by omega))
    · rw [hc j hj]
      unfold cut0
      by_cases y : j < u
      · rw [if_pos y]; exact hd j y
      · rw [if_neg y]; decide
    · rw [bv_shf0 up (Nat.le_refl _), hcu]
      omega
  | succ n ih =>
    intro i f h hn hi hi2 hB hO hf hz
    have hEh : BgH h b Nb w e := hE.off (hO b (by omega)) (hO (b + 1) (by omega))
    refine v_X0_addProduct_22 ⟨⟨by omega, by omega⟩, fun q => absurd q (by omega), fun q => ⟨_, _, hB.1, _, _, hB.2, ⟨by omega, by omega⟩, fun y => absurd y (by omega), fun y => ⟨y, by omega, ?_⟩⟩⟩
    refine ih (i + 1) (va_up f i 0) _ (by omega) (by omega) (by omega) hB.setF (hO.up (by omega) (by omega)) (fun j hj => by rw [up_n (by omega)]; exact hf j hj) (fun j hj hj2 => ?_)
    by_cases z : j = i
    · subst z; rw [up_s]
    · rw [up_n z]; exact hz j hj (by omega)
theorem c_addProduct {a b N Nb v w k up : Nat} (hA : BigAt h a N v) (hB : BigAt h b Nb w) (hab : a + 2 ≤ b ∨ b + 2 ≤ a) (hk : k < 1000000000) (hup : up < 1048576) (hV : v + w * k * 1000000000 ^ up < 1000000000 ^ N) (hp : ∀ h', BigAt h' a N (v + w * k * 1000000000 ^ up) → Off a 2 h h' → post none h' nx) : Ct g M_X0_addProduct [.ref a, .ref b, .int (nI k), .int (nI up)] h nx post := by
  have hA0 := hA
  obtain ⟨u, f, hH, k1, k2, k3, k4, k5⟩ := hA
  obtain ⟨z, e, hE, m1, m2, m3, m4, m5⟩ := hB
  refine Ct.of (by decide +kernel) (Nat.le_of_ble_eq_true rfl) (v_X0_addProduct_0 ⟨by omega, fun q => ?_, fun q => ⟨_, _, hE.1, by omega, fun q2 => ?_, fun q2 => ⟨by omega, _, _, hH.1, ?_⟩⟩⟩)
  · subst q
    rw [Nat.mul_zero, Nat.zero_mul, Nat.add_zero] at hp
    exact hp h hA0 Off.rf
  · have : w = 0 := by rw [← m5, q2]; rfl
    subst this
    rw [Nat.zero_mul, Nat.zero_mul, Nat.add_zero] at hp
    exact hp h hA0 Off.rf
  · have hzN : z + up ≤ N := by
      obtain ⟨z', rfl⟩ : ∃ z', z = z' + 1 := ⟨z - 1, by omega⟩
      have h1 := bv_ge (m4 z' rfl)
      rw [m5] at h1
      have h2 : 1000000000 ^ z' * 1 ≤ w * k := Nat.mul_le_mul h1 (by omega)
      have h3 : 1000000000 ^ z' * 1 * 1000000000 ^ up ≤ w * k * 1000000000 ^ up := Nat.mul_le_mul_right _ h2
      rw [Nat.mul_one, ← Nat.pow_add] at h3
      have := BBlt (a := z' + up) (b := N) (by omega)
      omega
    exact l_addz h hab ⟨by omega, hk⟩ ⟨k1, k2⟩ ⟨hzN, by omega, m1, m2⟩ hE m3 m4 k3 k4 k5 (by rw [m5]) hV hp (up - u) u f h rfl (Nat.le_refl _) (Or.inr rfl) hH Off.rf (fun _ _ => rfl) (fun j h1 h2 => absurd h1 (by omega))
theorem c_addLong {a b N Nb v w k : Nat} (hA : BigAt h a N v) (hB : BigAt h b Nb w) (hab : a + 2 ≤ b ∨ b + 2 ≤ a) (hk : k < 1000000000000000000) (hV : v + w * k < 1000000000 ^ N) (hp : ∀ h', BigAt h' a N (v + w * k) → Off a 2 h h' → post none h' nx) : Ct g M_X0_addLongProduct [.ref a, .ref b, .long (lN k)] h nx post := by
  have hkk : k = k / 1000000000 * 1000000000 + k % 1000000000 := by omega
  have hm : w * (k % 1000000000) ≤ w * k := Nat.mul_le_mul_left _ (Nat.mod_le _ _)
  have e : v + w * (k % 1000000000) * 1000000000 ^ 0 + w * (k / 1000000000) * 1000000000 ^ 1 = v + w * k := by
    have : w * k = w * (k / 1000000000 * 1000000000 + k % 1000000000) := by rw [← hkk]
    rw [Nat.pow_zero, Nat.pow_one]
    grind
  have hA0 := hA
  obtain ⟨u, f, hH, -⟩ := hA
  refine Ct.of (by decide +kernel) (Nat.le_of_ble_eq_true rfl) (v_X0_addLongProduct_0 ⟨⟨by omega, by decide, by decide⟩, _, _, hH.1, c_addProduct hA0 hB hab (Nat.mod_lt _ (by decide)) (by decide) (by rw [Nat.pow_zero]; omega) (fun h1 hB1 hO1 => ⟨rfl, ⟨by omega, by decide, by decide⟩, ?_⟩)⟩)
  have hB1' := hB1
  obtain ⟨u1, f1, hH1, -⟩ := hB1
  refine ⟨_, _, hH1.1, c_addProduct hB1' (hB.of hO1 (by omega)) hab (by omega) (by decide) (by rw [e]; exact hV) (fun h2 hB2 hO2 => ⟨rfl, ?_⟩)⟩
  rw [e] at hB2
  exact hp h2 hB2 (hO1.tr hO2)
end BIG3
