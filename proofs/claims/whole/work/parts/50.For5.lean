/-! Forecast: made -/
def A0 : Nat → Nat := va_up (fun _ => 0) 0 1
abbrev pR (h : xHp) (F n i : Nat) : Prop := (∃ G : Nat → Option Nat, h (F + 3) = some (xra 6 12 G) ∧ ∀ y, y < i → G y = some (rowA F n y)) ∧ ∀ y, y < i → RowAt h (rowA F n y) n (fun _ => 0) 0 (fun _ => 0)
abbrev pK (h : xHp) (F n i : Nat) : Prop := (∃ G : Nat → Option Nat, h (F + 64 + 24 * n) = some (xra 5 72 G) ∧ ∀ j, j < i → G j = some (F + 65 + 24 * n + 5 * j)) ∧ ∀ j, j < i → FracAt h (F + 65 + 24 * n + 5 * j) 21 0 0
abbrev pV (h : xHp) (F n i : Nat) : Prop := (∃ G : Nat → Option Nat, h (F + 425 + 24 * n) = some (xra 4 6 G) ∧ ∀ s, s < i → G s = some (F + 425 + 24 * n + 1 + 2 * s)) ∧ ∀ s, s < i → BigAt h (F + 425 + 24 * n + 1 + 2 * s) 112 0
theorem pR.ofq {h h' : xHp} {F n i : Nat} (hi : i ≤ 12) (k : pR h F n i) (o : ∀ q, F + 3 ≤ q → q < rowA F n i → h' q = h q) : pR h' F n i := by
  obtain ⟨⟨G, a, b⟩, c⟩ := k
  have l := rowA_lo (F := F) (n := n) (y := i)
  refine ⟨⟨G, (o _ (by omega) (by omega)).trans a, b⟩, fun y hy => (c y hy).ofq (fun q x z => ?_)⟩
  have := rowA_lo (F := F) (n := n) (y := y)
  have := rowA_lt (F := F) (n := n) hy
  exact o q (by omega) (by omega)
theorem pK.ofq {h h' : xHp} {F n i : Nat} (k : pK h F n i) (o : ∀ q, F + 64 + 24 * n ≤ q → q < F + 65 + 24 * n + 5 * i → h' q = h q) : pK h' F n i := by
  obtain ⟨⟨G, a, b⟩, c⟩ := k
  exact ⟨⟨G, (o _ (by omega) (by omega)).trans a, b⟩, fun j hj => (c j hj).ofq (fun q x z => o q (by omega) (by omega))⟩
theorem pV.ofq {h h' : xHp} {F n i : Nat} (k : pV h F n i) (o : ∀ q, F + 425 + 24 * n ≤ q → q < F + 426 + 24 * n + 2 * i → h' q = h q) : pV h' F n i := by
  obtain ⟨⟨G, a, b⟩, c⟩ := k
  exact ⟨⟨G, (o _ (by omega) (by omega)).trans a, b⟩, fun j hj => (c j hj).ofq (fun q x z => o q (by omega) (by omega))⟩
section FOR5
variable {g : xG} {post : xPost} {h : xHp}
theorem f_241 {F n m wt et : Nat} {B : Nat → Nat} {h00 : xHp} (hn : 2 ≤ n ∧ n ≤ 6) (hB : ∀ s, s < 6 → B s = 1) (hp : ∀ h' B', FcAt h' F n m wt et 0 0 12 (-1) (nI 0) A0 B' (fun _ _ => 0) (fun _ => 0) (fun _ _ => 0) (fun _ => 0) (fun _ => 0) (fun _ => 0) 0 0 → (∀ s, s < 6 → B' s = 1) → Off F (451 + 24 * n) h00 h' → post none h' (F + 451 + 24 * n)) : ∀ (d k : Nat) (h : xHp), 30 - k = d → k ≤ 30 → h F = some (xo 2 [.int (nI n), .ref m, .ref wt, .ref et, .ref (F + 1), .ref (F + 2), .ref (F + 3), .ref (F + 64 + 24 * n), .ref (F + 425 + 24 * n), .ref (F + 438 + 24 * n), .ref (F + 449 + 24 * n), .ref (F + 443 + 24 * n), .ref (F + 444 + 24 * n), .int (nI 0), .int (nI 0), .int (nI 0), .int (nI 0), .int (nI 0)]) → h (F + 1) = some (xna 6 A0) → h (F + 2) = some (xna 6 B) → pR h F n 12 → pK h F n 72 → pV h F n 6 → (∃ su sl, FracAt h (F + 438 + 24 * n) 112 su sl) → FcW h F n (fun _ => 0) 0 0 → BigAt h (F + 449 + 24 * n) 21 (2 ^ (20 * k)) → Off F (451 + 24 * n) h00 h → Blk g M_X1_init post 241 [(0, .ref F), (5, .int (nI (20 * k)))] [] h (F + 451 + 24 * n) 594 29626 := by
  have er : rowA F n 12 = F + 64 + 24 * n := by unfold rowA; omega
  intro d
  induction d with
  | zero =>
    intro k h hd hk hO hA hB2 hR hK hV hS hW hT hOff
    have : k = 30 := by omega
    subst this
    refine v_X1_init_241 ⟨⟨by decide, by decide⟩, fun _ => ⟨_, _, _, _, _, _, _, _, _, _, _, _, _, hO, by decide, by decide, ?_⟩, fun q => absurd q (by decide)⟩
    have hS2 : FcS h F n := ⟨hR.1, hK.1, hT⟩
    have hD2 : FcD h F n (fun _ _ => 0) (fun _ => 0) (fun _ _ => 0) (fun _ => 0) (fun _ => 0) := ⟨hR.2, hK.2, ⟨fun _ => 0, hV.1, hV.2⟩, hS⟩
    exact hp _ B ⟨xup_s _ _ _, hS2.ofq (fun q hq => xup_n (by omega)), (xup_n (by omega)).trans hA, (xup_n (by omega)).trans hB2, hD2.ofq (fun q a b c => xup_n (by omega)), FcW.ofq hW (fun q a b => xup_n (by omega))⟩ hB (hOff.up (by omega) (by omega))
  | succ d ih =>
    intro k h hd hk hO hA hB2 hR hK hV hS hW hT hOff
    obtain ⟨u, hu⟩ := hT.obj
    have e1 : 2 ^ (20 * k) * 1048576 = 2 ^ (20 * (k + 1)) := by
      rw [show 20 * (k + 1) = 20 * k + 20 by omega, Nat.pow_add]
    have h600 : (2 : Nat) ^ (20 * (k + 1)) < 1000000000 ^ 21 := Nat.lt_of_le_of_lt (Nat.pow_le_pow_right (by decide) (show 20 * (k + 1) ≤ 600 by omega)) (by decide +kernel)
    refine v_X1_init_241 ⟨⟨by omega, by decide⟩, fun q => absurd q (by omega), fun _ => ⟨_, _, _, _, _, _, _, _, _, _, _, _, _, hO, by decide, by decide, _, _, hu, c_multiply hT (by decide) (by rw [e1]; exact h600) (fun h1 hB1 hO1 => ⟨rfl, ?_⟩)⟩⟩
    rw [e1] at hB1
    have o1 : ∀ q, (q < F + 449 + 24 * n ∨ F + 451 + 24 * n ≤ q) → h1 q = h q := fun q hq => hO1 q (by omega)
    have i1 := ih (k + 1) h1 (by omega) (by omega) ((o1 F (by omega)).trans hO) ((o1 _ (by omega)).trans hA) ((o1 _ (by omega)).trans hB2) (pR.ofq (by decide) hR (fun q a b => o1 q (by omega))) (hK.ofq (fun q a b => o1 q (by omega))) (hV.ofq (fun q a b => o1 q (by omega))) (by obtain ⟨su, sl, s1⟩ := hS; exact ⟨su, sl, s1.ofq (fun q a b => o1 q (by omega))⟩) (FcW.ofq hW (fun q a b => o1 q (by omega))) hB1 (hOff.tr (hO1.mono (by omega) (by omega)))
    exact i1
theorem f_146 {F n m wt et : Nat} {h00 : xHp} (hn : 2 ≤ n ∧ n ≤ 6) (hp : ∀ h' B', FcAt h' F n m wt et 0 0 12 (-1) (nI 0) A0 B' (fun _ _ => 0) (fun _ => 0) (fun _ _ => 0) (fun _ => 0) (fun _ => 0) (fun _ => 0) 0 0 → (∀ s, s < 6 → B' s = 1) → Off F (451 + 24 * n) h00 h' → post none h' (F + 451 + 24 * n)) : ∀ (d i nx cu su : Nat) (B : Nat → Nat) (h : xHp), 6 - i = d → i ≤ 6 → nx = F + 426 + 24 * n + 2 * i → cu = 569 + 2 * i → su = 28362 + 114 * i → h F = some (xo 2 [.int (nI n), .ref m, .ref wt, .ref et, .ref (F + 1), .ref (F + 2), .ref (F + 3), .ref (F + 64 + 24 * n), .ref (F + 425 + 24 * n), .null, .null, .null, .null, .int (nI 0), .int (nI 0), .int (nI 0), .int (nI 0), .int (nI 0)]) → h (F + 1) = some (xna 6 A0) → h (F + 2) = some (xna 6 B) → (∀ s, s < i → B s = 1) → pR h F n 12 → pK h F n 72 → pV h F n i → Off F (451 + 24 * n) h00 h → Blk g M_X1_init post 146 [(0, .ref F), (5, .int (nI i))] [] h nx cu su := by
  have er : rowA F n 12 = F + 64 + 24 * n := by unfold rowA; omega
  intro d
  induction d with
  | zero =>
    intro i nx cu su B h hd hi e1 e2 e3 hO hA hB hB1 hR hK hV hOff
    have : i = 6 := by omega
    subst this
    have e1 : nx = F + 438 + 24 * n := by omega
    subst e1; subst e2; subst e3
    refine v_X1_init_146 ⟨⟨by decide, by decide⟩, fun _ => ⟨by decide, by decide, by decide, by decide, c_FracInit _ rfl ⟨by decide, by decide⟩ (xup_s _ _ _) (fun h1 hF1 hO1 => ?_)⟩, fun q => absurd q (by decide)⟩
    have o1 : ∀ q, (q < F + 438 + 24 * n ∨ F + 443 + 24 * n ≤ q) → h1 q = h q := fun q hq => (hO1 q (by omega)).trans (xup_n (by omega))
    have n1 : F + 438 + 24 * n + 5 = F + 443 + 24 * n := by omega
    rw [n1]
    refine ⟨rfl, _, _, _, _, _, _, _, _, _, (o1 F (by omega)).trans hO, by decide, by decide, by decide, by omega, by decide, by decide, by decide, by decide, ?_⟩
    have n2 : F + 443 + 24 * n + 1 = F + 444 + 24 * n := by omega
    rw [n2]
    refine c_FracInit _ rfl ⟨by decide, by decide⟩ (xup_s _ _ _) (fun h2 hF2 hO2 => ?_)
    have o2 : ∀ q, ¬ q = F → (q < F + 443 + 24 * n ∨ F + 449 + 24 * n ≤ q) → h2 q = h1 q := fun q hq hq2 => (hO2 q (by omega)).trans ((xup_n (by omega)).trans ((xup_n (by omega)).trans ((xup_n (by omega)).trans (xup_n (by omega)))))
    have w2 : h2 (F + 443 + 24 * n) = some (xia 6 (fun _ => nI 0)) := (hO2 _ (by omega)).trans ((xup_n (by omega)).trans ((xup_n (by omega)).trans (xup_s _ _ _)))
    have c2 : h2 F = some (xo 2 [.int (nI n), .ref m, .ref wt, .ref et, .ref (F + 1), .ref (F + 2), .ref (F + 3), .ref (F + 64 + 24 * n), .ref (F + 425 + 24 * n), .ref (F + 438 + 24 * n), .null, .ref (F + 443 + 24 * n), .null, .int (nI 0), .int (nI 0), .int (nI 0), .int (nI 0), .int (nI 0)]) := (hO2 _ (by omega)).trans ((xup_n (by omega)).trans (xup_s _ _ _))
    have n3 : F + 444 + 24 * n + 5 = F + 449 + 24 * n := by omega
    rw [n3]
    refine ⟨rfl, _, _, _, _, _, _, _, _, _, _, _, c2, by decide, by decide, by decide, by decide, c_BigInit _ rfl ⟨by decide, by decide⟩ (xup_s _ _ _) (fun h3 hB3 hO3 => ?_)⟩
    have o3 : ∀ q, ¬ q = F → (q < F + 449 + 24 * n ∨ F + 451 + 24 * n ≤ q) → h3 q = h2 q := fun q hq hq2 => (hO3 q (by omega)).trans ((xup_n (by omega)).trans (xup_n (by omega)))
    have c3 : h3 F = some (xo 2 [.int (nI n), .ref m, .ref wt, .ref et, .ref (F + 1), .ref (F + 2), .ref (F + 3), .ref (F + 64 + 24 * n), .ref (F + 425 + 24 * n), .ref (F + 438 + 24 * n), .null, .ref (F + 443 + 24 * n), .ref (F + 444 + 24 * n), .int (nI 0), .int (nI 0), .int (nI 0), .int (nI 0), .int (nI 0)]) := (hO3 _ (by omega)).trans ((xup_n (by omega)).trans (xup_s _ _ _))
    obtain ⟨u, hu⟩ := hB3.obj
    have hB3' : BigAt (xup h3 F (xo 2 [.int (nI n), .ref m, .ref wt, .ref et, .ref (F + 1), .ref (F + 2), .ref (F + 3), .ref (F + 64 + 24 * n), .ref (F + 425 + 24 * n), .ref (F + 438 + 24 * n), .ref (F + 449 + 24 * n), .ref (F + 443 + 24 * n), .ref (F + 444 + 24 * n), .int (nI 0), .int (nI 0), .int (nI 0), .int (nI 0), .int (nI 0)])) (F + 449 + 24 * n) 21 0 := hB3.ofq (fun q a b => xup_n (by omega))
    refine ⟨rfl, _, _, _, _, _, _, _, _, _, _, _, _, c3, by decide, by decide, _, _, hu, c_set hB3' (by decide +kernel) (by decide) (fun h4 hB4 hO4 => ⟨rfl, ?_⟩)⟩
    have n4 : F + 449 + 24 * n + 1 + 1 = F + 451 + 24 * n := by omega
    rw [n4]
    have o4 : ∀ q, ¬ q = F → (q < F + 449 + 24 * n ∨ F + 451 + 24 * n ≤ q) → h4 q = h3 q := fun q hq hq2 => (hO4 q (by omega)).trans (xup_n (by omega))
    have oA : ∀ q, ¬ q = F → (q < F + 438 + 24 * n ∨ F + 451 + 24 * n ≤ q) → h4 q = h q := fun q hq hq2 => (o4 q hq (by omega)).trans ((o3 q hq (by omega)).trans ((o2 q hq (by omega)).trans (o1 q (by omega))))
    have oB : ∀ q, F + 443 + 24 * n ≤ q → q < F + 449 + 24 * n → h4 q = h2 q := fun q hq hq2 => (o4 q (by omega) (by omega)).trans (o3 q (by omega) (by omega))
    have hW : FcW h4 F n (fun _ => 0) 0 0 := ⟨(oB _ (by omega) (by omega)).trans w2, hF2.ofq (fun q a b => oB q (by omega) (by omega))⟩
    have hS : FracAt h4 (F + 438 + 24 * n) 112 0 0 := hF1.ofq (fun q a b => (o4 q (by omega) (by omega)).trans ((o3 q (by omega) (by omega)).trans (o2 q (by omega) (by omega))))
    refine f_241 (h00 := h00) hn (fun s hs => hB1 s hs) hp 30 0 h4 rfl (by decide) ((hO4 F (by omega)).trans (xup_s _ _ _)) ((oA _ (by omega) (by omega)).trans hA) ((oA _ (by omega) (by omega)).trans hB) (pR.ofq (by decide) hR (fun q a b => oA q (by omega) (by omega))) (hK.ofq (fun q a b => oA q (by omega) (by omega))) (hV.ofq (fun q a b => oA q (by omega) (by omega))) ⟨0, 0, hS⟩ hW hB4 ?_
    intro q hq
    exact (oA q (by omega) (by omega)).trans (hOff q hq)
  | succ d ih =>
    intro i nx cu su B h hd hi e1 e2 e3 hO hA hB hB1 hR hK hV hOff
    subst e1; subst e2; subst e3
    obtain ⟨⟨G, v1, v2⟩, v3⟩ := id hV
    refine v_X1_init_146 ⟨⟨by omega, by decide⟩, fun q => absurd q (by omega), fun _ => ⟨_, _, _, _, _, _, _, _, _, hO, _, _, hB, by omega, by decide, by omega, by omega, by omega, by omega, c_BigInit _ rfl ⟨by decide, by decide⟩ (xup_s _ _ _) (fun h1 hB2 hO1 => ?_)⟩⟩
    have o1 : ∀ q, ¬ q = F + 2 → (q < F + 426 + 24 * n + 2 * i ∨ F + 428 + 24 * n + 2 * i ≤ q) → h1 q = h q := fun q hq hq2 => (hO1 q (by omega)).trans ((xup_n (by omega)).trans (xup_n (by omega)))
    obtain ⟨u, hu⟩ := hB2.obj
    refine ⟨rfl, _, _, (o1 _ (by omega) (by omega)).trans v1, _, _, hu, by omega, by decide, ?_⟩
    have o2 : ∀ (E : xE) q, ¬ q = F + 2 → ¬ q = F + 425 + 24 * n → (q < F + 426 + 24 * n + 2 * i ∨ F + 428 + 24 * n + 2 * i ≤ q) → xup h1 (F + 425 + 24 * n) E q = h q := fun E q hq hq2 hq3 => (xup_n hq2).trans (o1 q hq hq3)
    refine ih (i + 1) _ _ _ (va_up B i 1) _ (by omega) (by omega) (by omega) (by omega) (by omega) ((o2 _ F (by omega) (by omega) (by omega)).trans hO) ((o2 _ _ (by omega) (by omega) (by omega)).trans hA) ?_ (fun s hs => ?_) (pR.ofq (by decide) hR (fun q a b => o2 _ q (by omega) (by omega) (by omega))) (hK.ofq (fun q a b => o2 _ q (by omega) (by omega) (by omega))) ⟨⟨_, xup_s _ _ _, fun s hs => ?_⟩, fun s hs => ?_⟩ ?_
    · exact (xup_n (by omega)).trans ((hO1 _ (by omega)).trans ((xup_n (by omega)).trans (xup_s _ _ _)))
    · by_cases z : s = i
      · subst z; exact up_s
      · rw [up_n z]; exact hB1 s (by omega)
    · by_cases z : s = i
      · subst z; rw [up_s]; congr 1
        omega
      · rw [up_n z]; exact v2 s (by omega)
    · by_cases z : s = i
      · subst z
        have : F + 425 + 24 * n + 1 + 2 * s = F + 426 + 24 * n + 2 * s := by omega
        rw [this]
        exact hB2.ofq (fun q a b => xup_n (by omega))
      · exact (v3 s (by omega)).ofq (fun q a b => o2 _ q (by omega) (by omega) (by omega))
    · exact ((((hOff.up (by omega) (by omega)).up (by omega) (by omega)).tr (hO1.mono (by omega) (by omega))).up (by omega) (by omega))
theorem f_102 {F n m wt et : Nat} {h00 : xHp} (hn : 2 ≤ n ∧ n ≤ 6) (hp : ∀ h' B', FcAt h' F n m wt et 0 0 12 (-1) (nI 0) A0 B' (fun _ _ => 0) (fun _ => 0) (fun _ _ => 0) (fun _ => 0) (fun _ => 0) (fun _ => 0) 0 0 → (∀ s, s < 6 → B' s = 1) → Off F (451 + 24 * n) h00 h' → post none h' (F + 451 + 24 * n)) : ∀ (d i nx cu su : Nat) (h : xHp), 72 - i = d → i ≤ 72 → nx = F + 65 + 24 * n + 5 * i → cu = 208 + 5 * i → su = 11796 + 230 * i → h F = some (xo 2 [.int (nI n), .ref m, .ref wt, .ref et, .ref (F + 1), .ref (F + 2), .ref (F + 3), .ref (F + 64 + 24 * n), .null, .null, .null, .null, .null, .int (nI 0), .int (nI 0), .int (nI 0), .int (nI 0), .int (nI 0)]) → h (F + 1) = some (xna 6 A0) → h (F + 2) = some (xna 6 (fun _ => 0)) → pR h F n 12 → pK h F n i → Off F (451 + 24 * n) h00 h → Blk g M_X1_init post 102 [(0, .ref F), (5, .int (nI i))] [] h nx cu su := by
  have er : rowA F n 12 = F + 64 + 24 * n := by unfold rowA; omega
  intro d
  induction d with
  | zero =>
    intro i nx cu su h hd hi e1 e2 e3 hO hA hB hR hK hOff
    have : i = 72 := by omega
    subst this
    have e1 : nx = F + 425 + 24 * n := by omega
    subst e1; subst e2; subst e3
    obtain ⟨⟨G, v1, v2⟩, v3⟩ := id hK
    refine v_X1_init_102 ⟨_, _, _, _, _, _, _, _, hO, _, _, v1, ⟨by decide, by decide⟩, fun _ => ⟨by decide, by decide, by decide, by omega, ?_⟩, fun q => absurd q (by decide)⟩
    have o1 : ∀ (E E2 : xE) q, ¬ q = F → ¬ q = F + 425 + 24 * n → xup (xup h (F + 425 + 24 * n) E) F E2 q = h q := fun E E2 q a b => (xup_n a).trans (xup_n b)
    exact f_146 (h00 := h00) hn hp 6 0 _ _ _ (fun _ => 0) _ rfl (by decide) (by omega) (by omega) (by omega) (xup_s _ _ _) ((o1 _ _ _ (by omega) (by omega)).trans hA) ((o1 _ _ _ (by omega) (by omega)).trans hB) (fun s hs => absurd hs (by omega)) (pR.ofq (by decide) hR (fun q a b => o1 _ _ q (by omega) (by omega))) (hK.ofq (fun q a b => o1 _ _ q (by omega) (by omega))) ⟨⟨_, (xup_n (by omega)).trans (xup_s _ _ _), fun s hs => absurd hs (by omega)⟩, fun s hs => absurd hs (by omega)⟩ ((hOff.up (by omega) (by omega)).up (by omega) (by omega))
  | succ d ih =>
    intro i nx cu su h hd hi e1 e2 e3 hO hA hB hR hK hOff
    subst e1; subst e2; subst e3
    obtain ⟨⟨G, v1, v2⟩, v3⟩ := id hK
    refine v_X1_init_102 ⟨_, _, _, _, _, _, _, _, hO, _, _, v1, ⟨by omega, by decide⟩, fun q => absurd q (by omega), fun _ => ⟨by omega, by omega, by omega, by omega, c_FracInit _ rfl ⟨by decide, by decide⟩ (xup_s _ _ _) (fun h1 hF1 hO1 => ?_)⟩⟩
    have o1 : ∀ q, (q < F + 65 + 24 * n + 5 * i ∨ F + 70 + 24 * n + 5 * i ≤ q) → h1 q = h q := fun q hq => (hO1 q (by omega)).trans (xup_n (by omega))
    refine ⟨rfl, _, _, (o1 _ (by omega)).trans v1, _, _, hF1.1, by omega, by decide, ?_⟩
    have o2 : ∀ (E : xE) q, ¬ q = F + 64 + 24 * n → (q < F + 65 + 24 * n + 5 * i ∨ F + 70 + 24 * n + 5 * i ≤ q) → xup h1 (F + 64 + 24 * n) E q = h q := fun E q hq hq2 => (xup_n hq).trans (o1 q hq2)
    refine ih (i + 1) _ _ _ _ (by omega) (by omega) (by omega) (by omega) (by omega) ((o2 _ F (by omega) (by omega)).trans hO) ((o2 _ _ (by omega) (by omega)).trans hA) ((o2 _ _ (by omega) (by omega)).trans hB) (pR.ofq (by decide) hR (fun q a b => o2 _ q (by omega) (by omega))) ⟨⟨_, xup_s _ _ _, fun j hj => ?_⟩, fun j hj => ?_⟩ (((hOff.up (by omega) (by omega)).tr (hO1.mono (by omega) (by omega))).up (by omega) (by omega))
    · by_cases z : j = i
      · subst z; exact up_s
      · rw [up_n z]; exact v2 j (by omega)
    · by_cases z : j = i
      · subst z; exact hF1.ofq (fun q a b => xup_n (by omega))
      · exact (v3 j (by omega)).ofq (fun q a b => o2 _ q (by omega) (by omega))
theorem f_60 {F n m wt et : Nat} {h00 : xHp} (hn : 2 ≤ n ∧ n ≤ 6) (hp : ∀ h' B', FcAt h' F n m wt et 0 0 12 (-1) (nI 0) A0 B' (fun _ _ => 0) (fun _ => 0) (fun _ _ => 0) (fun _ => 0) (fun _ => 0) (fun _ => 0) 0 0 → (∀ s, s < 6 → B' s = 1) → Off F (451 + 24 * n) h00 h' → post none h' (F + 451 + 24 * n)) : ∀ (d i nx cu su : Nat) (h : xHp), 12 - i = d → i ≤ 12 → nx = rowA F n i → cu = 3 + 17 * i → su = 24 + 975 * i → h F = some (xo 2 [.int (nI n), .ref m, .ref wt, .ref et, .ref (F + 1), .ref (F + 2), .ref (F + 3), .null, .null, .null, .null, .null, .null, .int (nI 0), .int (nI 0), .int (nI 0), .int (nI 0), .int (nI 0)]) → h (F + 1) = some (xna 6 A0) → h (F + 2) = some (xna 6 (fun _ => 0)) → pR h F n i → Off F (451 + 24 * n) h00 h → Blk g M_X1_init post 60 [(0, .ref F), (1, .int (nI n)), (5, .int (nI i))] [] h nx cu su := by
  have er : rowA F n 12 = F + 64 + 24 * n := by unfold rowA; omega
  intro d
  induction d with
  | zero =>
    intro i nx cu su h hd hi e1 e2 e3 hO hA hB hR hOff
    have : i = 12 := by omega
    subst this
    rw [er] at e1
    subst e1; subst e2; subst e3
    refine v_X1_init_60 ⟨⟨by decide, by decide⟩, fun _ => ⟨by decide, by decide, by decide, _, _, _, _, _, _, _, hO, by omega, ?_⟩, fun q => absurd q (by decide)⟩
    have o1 : ∀ (E E2 : xE) q, ¬ q = F → ¬ q = F + 64 + 24 * n → xup (xup h (F + 64 + 24 * n) E) F E2 q = h q := fun E E2 q a b => (xup_n a).trans (xup_n b)
    exact f_102 (h00 := h00) hn hp 72 0 _ _ _ _ rfl (by decide) (by omega) (by omega) (by omega) (xup_s _ _ _) ((o1 _ _ _ (by omega) (by omega)).trans hA) ((o1 _ _ _ (by omega) (by omega)).trans hB) (pR.ofq (by decide) hR (fun q a b => o1 _ _ q (by omega) (by omega))) ⟨⟨_, (xup_n (by omega)).trans (xup_s _ _ _), fun s hs => absurd hs (by omega)⟩, fun s hs => absurd hs (by omega)⟩ ((hOff.up (by omega) (by omega)).up (by omega) (by omega))
  | succ d ih =>
    intro i nx cu su h hd hi e1 e2 e3 hO hA hB hR hOff
    subst e1; subst e2; subst e3
    obtain ⟨⟨G, v1, v2⟩, v3⟩ := id hR
    have l1 := rowA_lo (F := F) (n := n) (y := i)
    have l2 := rowA_hi (F := F) (n := n) (y := i) (by omega)
    have l3 : rowA F n i + 5 + 2 * n = rowA F n (i + 1) := by
      unfold rowA; rw [Nat.add_mul]; omega
    refine v_X1_init_60 ⟨⟨by omega, by decide⟩, fun q => absurd q (by omega), fun _ => ⟨_, _, _, _, _, _, _, hO, by omega, by omega, by omega, by omega, c_RowInit _ rfl hn (xup_s _ _ _) (fun h1 hR1 hO1 => ?_)⟩⟩
    have o1 : ∀ q, (q < rowA F n i ∨ rowA F n i + (5 + 2 * n) ≤ q) → h1 q = h q := fun q hq => (hO1 q (by omega)).trans (xup_n (by omega))
    refine ⟨rfl, _, _, (o1 _ (by omega)).trans v1, _, _, _, hR1.2.1, by omega, by decide, ?_⟩
    have o2 : ∀ (E : xE) q, ¬ q = F + 3 → (q < rowA F n i ∨ rowA F n i + (5 + 2 * n) ≤ q) → xup h1 (F + 3) E q = h q := fun E q hq hq2 => (xup_n hq).trans (o1 q hq2)
    refine ih (i + 1) _ _ _ _ (by omega) (by omega) l3 (by omega) (by omega) ((o2 _ F (by omega) (by omega)).trans hO) ((o2 _ _ (by omega) (by omega)).trans hA) ((o2 _ _ (by omega) (by omega)).trans hB) ⟨⟨_, xup_s _ _ _, fun j hj => ?_⟩, fun j hj => ?_⟩ (((hOff.up (by omega) (by omega)).tr (hO1.mono (by omega) (by omega))).up (by omega) (by omega))
    · by_cases z : j = i
      · subst z; exact up_s
      · rw [up_n z]; exact v2 j (by omega)
    · by_cases z : j = i
      · subst z; exact hR1.ofq (fun q a b => xup_n (by omega))
      · have := rowA_lo (F := F) (n := n) (y := j)
        have := rowA_lt (F := F) (n := n) (y := j) (z := i) (by omega)
        exact (v3 j (by omega)).ofq (fun q a b => o2 _ q (by omega) (by omega))
theorem c_ForInit {F n m wt et nx : Nat} (hnx : F + 1 = nx) (hn : 2 ≤ n ∧ n ≤ 6) (h0 : h F = some (xo 2 [.int (nI 0), .null, .null, .null, .null, .null, .null, .null, .null, .null, .null, .null, .null, .int (nI 0), .int (nI 0), .int (nI 0), .int (nI 0), .int (nI 0)])) (hp : ∀ h' B', FcAt h' F n m wt et 0 0 12 (-1) (nI 0) A0 B' (fun _ _ => 0) (fun _ => 0) (fun _ _ => 0) (fun _ => 0) (fun _ => 0) (fun _ => 0) 0 0 → (∀ s, s < 6 → B' s = 1) → Off F (451 + 24 * n) h h' → post none h' (F + 451 + 24 * n)) : Ct g M_X1_init [.ref F, .int (nI n), .ref m, .ref wt, .ref et] h nx post := by
  subst hnx
  refine Ct.of (by decide +kernel) (Nat.le_of_ble_eq_true rfl) (v_X1_init_0 ⟨h0, by omega, by omega, by omega, by decide, by decide, by omega, ?_⟩)
  have er : rowA F n 0 = F + 4 := by unfold rowA; omega
  refine f_60 (h00 := h) hn hp 12 0 _ _ _ _ rfl (by decide) er.symm (by omega) (by omega) (xup_s _ _ _) ?_ ?_ ⟨⟨_, (xup_n (by omega)).trans (xup_s _ _ _), fun s hs => absurd hs (by omega)⟩, fun s hs => absurd hs (by omega)⟩ ?_
  · exact (xup_n (by omega)).trans ((xup_n (by omega)).trans (xup_s _ _ _))
  · exact (xup_n (by omega)).trans ((xup_n (by omega)).trans ((xup_n (by omega)).trans ((xup_n (by omega)).trans (xup_s _ _ _))))
  · exact (((((((Off.rf.up (by omega) (by omega)).up (by omega) (by omega)).up (by omega) (by omega)).up (by omega) (by omega)).up (by omega) (by omega)).up (by omega) (by omega)).up (by omega) (by omega)).up (by omega) (by omega)
end FOR5
