/-! Forecast: its cells -/
theorem BigAt.ofq {h h' : xHp} {a N v : Nat} (k : BigAt h a N v) (o : ∀ q, a ≤ q → q < a + 2 → h' q = h q) : BigAt h' a N v := k.off (o a (by omega) (by omega)) (o (a + 1) (by omega) (by omega))
theorem FracAt.ofq {h h' : xHp} {f N u l : Nat} (k : FracAt h f N u l) (o : ∀ q, f ≤ q → q < f + 5 → h' q = h q) : FracAt h' f N u l := ⟨(o f (by omega) (by omega)).trans k.1, k.2.1.ofq (fun q a b => o q (by omega) (by omega)), k.2.2.ofq (fun q a b => o q (by omega) (by omega))⟩
theorem RowAt.ofq {h h' : xHp} {r n W : Nat} {p e : Nat → Nat} (k : RowAt h r n p W e) (o : ∀ q, r ≤ q → q < r + 5 + 2 * n → h' q = h q) : RowAt h' r n p W e := by
  obtain ⟨k0, k1, ⟨F, k2, k3⟩, k4, k5, k6⟩ := k
  exact ⟨k0, (o r (by omega) (by omega)).trans k1, ⟨F, (o (r + 1) (by omega) (by omega)).trans k2, k3⟩, fun s hs => (k4 s hs).ofq (fun q a b => o q (by omega) (by omega)), k5.ofq (fun q a b => o q (by omega) (by omega)), (o (r + 4 + 2 * n) (by omega) (by omega)).trans k6⟩
theorem MvAt.ofq {h h' : xHp} {mv : Nat} {V : Nat → Nat} (k : MvAt h mv V) (o : ∀ q, mv ≤ q → q < mv + 13 → h' q = h q) : MvAt h' mv V := by
  obtain ⟨⟨F, k1, k2⟩, k3⟩ := k
  exact ⟨⟨F, (o mv (by omega) (by omega)).trans k1, k2⟩, fun s hs => (k3 s hs).ofq (fun q a b => o q (by omega) (by omega))⟩
def rowA (F n y : Nat) : Nat := F + 4 + y * (5 + 2 * n)
theorem rowA_lo {F n y : Nat} : F + 4 ≤ rowA F n y := by unfold rowA; omega
theorem rowA_lt {F n y z : Nat} (h : y < z) : rowA F n y + (5 + 2 * n) ≤ rowA F n z := by
  unfold rowA
  have : (y + 1) * (5 + 2 * n) ≤ z * (5 + 2 * n) := Nat.mul_le_mul_right _ h
  rw [Nat.add_mul, Nat.one_mul] at this
  omega
theorem rowA_hi {F n y : Nat} (h : y < 12) : rowA F n y + (5 + 2 * n) ≤ F + 64 + 24 * n := by
  have := rowA_lt (F := F) (n := n) h
  have e : rowA F n 12 = F + 64 + 24 * n := by unfold rowA; omega
  omega
abbrev fcF (F n m wt et ft kn cu : Nat) (wy wg : Int32) : xE := xo 2 [.int (nI n), .ref m, .ref wt, .ref et, .ref (F + 1), .ref (F + 2), .ref (F + 3), .ref (F + 64 + 24 * n), .ref (F + 425 + 24 * n), .ref (F + 438 + 24 * n), .ref (F + 449 + 24 * n), .ref (F + 443 + 24 * n), .ref (F + 444 + 24 * n), .int (nI ft), .int (nI kn), .int (nI cu), .int wy, .int wg]
def FcS (h : xHp) (F n : Nat) : Prop := (∃ G : Nat → Option Nat, h (F + 3) = some (xra 6 12 G) ∧ ∀ y, y < 12 → G y = some (rowA F n y)) ∧ (∃ G : Nat → Option Nat, h (F + 64 + 24 * n) = some (xra 5 72 G) ∧ ∀ i, i < 72 → G i = some (F + 65 + 24 * n + 5 * i)) ∧ BigAt h (F + 449 + 24 * n) 21 (2 ^ 600)
def FcD (h : xHp) (F n : Nat) (p : Nat → Nat → Nat) (W : Nat → Nat) (e : Nat → Nat → Nat) (ku kl : Nat → Nat) : Prop := (∀ y, y < 12 → RowAt h (rowA F n y) n (p y) (W y) (e y)) ∧ (∀ i, i < 72 → FracAt h (F + 65 + 24 * n + 5 * i) 21 (ku i) (kl i)) ∧ (∃ Z, MvAt h (F + 425 + 24 * n) Z) ∧ (∃ su sl, FracAt h (F + 438 + 24 * n) 112 su sl)
abbrev FcW (h : xHp) (F n : Nat) (w : Nat → Int) (vu vl : Nat) : Prop := h (F + 443 + 24 * n) = some (xia 6 (fun s => iW (w s))) ∧ FracAt h (F + 444 + 24 * n) 112 vu vl
theorem FcS.ofq {h h' : xHp} {F n : Nat} (k : FcS h F n) (o : ∀ q, (q = F + 3 ∨ q = F + 64 + 24 * n ∨ q = F + 449 + 24 * n ∨ q = F + 450 + 24 * n) → h' q = h q) : FcS h' F n := by
  obtain ⟨⟨G, a1, a2⟩, ⟨G2, b1, b2⟩, c⟩ := k
  exact ⟨⟨G, (o _ (by omega)).trans a1, a2⟩, ⟨G2, (o _ (by omega)).trans b1, b2⟩, c.ofq (fun q x y => o q (by omega))⟩
theorem FcD.ofq {h h' : xHp} {F n : Nat} {p : Nat → Nat → Nat} {W : Nat → Nat} {e : Nat → Nat → Nat} {ku kl : Nat → Nat} (k : FcD h F n p W e ku kl) (o : ∀ q, F + 4 ≤ q → q < F + 443 + 24 * n → ¬ q = F + 64 + 24 * n → h' q = h q) : FcD h' F n p W e ku kl := by
  obtain ⟨a, b, ⟨Z, c⟩, ⟨su, sl, d⟩⟩ := k
  refine ⟨fun y hy => (a y hy).ofq (fun q x z => ?_), fun i hi => (b i hi).ofq (fun q x z => o q (by omega) (by omega) (by omega)), ⟨Z, c.ofq (fun q x z => o q (by omega) (by omega) (by omega))⟩, ⟨su, sl, d.ofq (fun q x z => o q (by omega) (by omega) (by omega))⟩⟩
  have := rowA_lo (F := F) (n := n) (y := y)
  have := rowA_hi (F := F) (n := n) hy
  exact o q (by omega) (by omega) (by omega)
theorem FcW.ofq {h h' : xHp} {F n : Nat} {w : Nat → Int} {vu vl : Nat} (k : FcW h F n w vu vl) (o : ∀ q, F + 443 + 24 * n ≤ q → q < F + 449 + 24 * n → h' q = h q) : FcW h' F n w vu vl := ⟨(o _ (by omega) (by omega)).trans k.1, k.2.ofq (fun q x y => o q (by omega) (by omega))⟩
theorem FcD.row {h h' : xHp} {F n y W1 : Nat} {p : Nat → Nat → Nat} {W : Nat → Nat} {e : Nat → Nat → Nat} {ku kl p1 e1 Z1 : Nat → Nat} (k : FcD h F n p W e ku kl) (hy : y < 12) (o : Off2 (rowA F n y) (5 + 2 * n) (F + 425 + 24 * n) 13 h h') (hr : RowAt h' (rowA F n y) n p1 W1 e1) (hz : MvAt h' (F + 425 + 24 * n) Z1) : FcD h' F n (va_up p y p1) (va_up W y W1) (va_up e y e1) ku kl := by
  obtain ⟨a, b, ⟨Z, c⟩, ⟨su, sl, d⟩⟩ := k
  have l1 := rowA_lo (F := F) (n := n) (y := y)
  have l2 := rowA_hi (F := F) (n := n) hy
  refine ⟨fun z hz => ?_, fun i hi => (b i hi).ofq (fun q x z => o q (by omega) (by omega)), ⟨Z1, hz⟩, ⟨su, sl, d.ofq (fun q x z => o q (by omega) (by omega))⟩⟩
  by_cases q : z = y
  · subst q; rw [up_s, up_s, up_s]; exact hr
  · rw [up_n q, up_n q, up_n q]
    have l3 := rowA_lo (F := F) (n := n) (y := z)
    have l4 := rowA_hi (F := F) (n := n) hz
    refine (a z hz).ofq (fun u x v => o u ?_ (by omega))
    rcases Nat.lt_or_ge z y with w | w
    · have := rowA_lt (F := F) (n := n) w
      omega
    · have := rowA_lt (F := F) (n := n) (y := y) (z := z) (by omega)
      omega
theorem FcD.row1 {h h' : xHp} {F n y W1 : Nat} {p : Nat → Nat → Nat} {W : Nat → Nat} {e : Nat → Nat → Nat} {ku kl p1 e1 : Nat → Nat} (k : FcD h F n p W e ku kl) (hy : y < 12) (o : Off (rowA F n y) (5 + 2 * n) h h') (hr : RowAt h' (rowA F n y) n p1 W1 e1) : FcD h' F n (va_up p y p1) (va_up W y W1) (va_up e y e1) ku kl := by
  obtain ⟨Z, c⟩ := k.2.2.1
  have l2 := rowA_hi (F := F) (n := n) hy
  exact k.row hy (fun q x _ => o q x) hr (c.ofq (fun q x y => o q (by omega)))
theorem FcD.kept {h h' : xHp} {F n i u1 l1 : Nat} {p : Nat → Nat → Nat} {W : Nat → Nat} {e : Nat → Nat → Nat} {ku kl : Nat → Nat} (k : FcD h F n p W e ku kl) (hi : i < 72) (o : Off (F + 65 + 24 * n + 5 * i) 5 h h') (hr : FracAt h' (F + 65 + 24 * n + 5 * i) 21 u1 l1) : FcD h' F n p W e (va_up ku i u1) (va_up kl i l1) := by
  obtain ⟨a, b, ⟨Z, c⟩, ⟨su, sl, d⟩⟩ := k
  refine ⟨fun y hy => (a y hy).ofq (fun q x z => ?_), fun j hj => ?_, ⟨Z, c.ofq (fun q x z => o q (by omega))⟩, ⟨su, sl, d.ofq (fun q x z => o q (by omega))⟩⟩
  · have := rowA_hi (F := F) (n := n) hy
    exact o q (by omega)
  · by_cases q : j = i
    · subst q; rw [up_s, up_s]; exact hr
    · rw [up_n q, up_n q]; exact (b j hj).ofq (fun q x z => o q (by omega))
theorem FcD.scr {h h' : xHp} {F n su1 sl1 : Nat} {p : Nat → Nat → Nat} {W : Nat → Nat} {e : Nat → Nat → Nat} {ku kl : Nat → Nat} (k : FcD h F n p W e ku kl) (o : Off (F + 438 + 24 * n) 5 h h') (hr : FracAt h' (F + 438 + 24 * n) 112 su1 sl1) : FcD h' F n p W e ku kl := by
  obtain ⟨a, b, ⟨Z, c⟩, ⟨su, sl, d⟩⟩ := k
  refine ⟨fun y hy => (a y hy).ofq (fun q x z => ?_), fun j hj => (b j hj).ofq (fun q x z => o q (by omega)), ⟨Z, c.ofq (fun q x z => o q (by omega))⟩, ⟨su1, sl1, hr⟩⟩
  have := rowA_hi (F := F) (n := n) hy
  exact o q (by omega)
/-- least terms of a number over a lower part -/
abbrev lowT (P D u l : Nat) : Prop := u * D = P * l ∧ Nat.Coprime u l ∧ 0 < l
theorem lowT.le {P D u l : Nat} (h : lowT P D u l) (hD : 0 < D) : l ≤ D ∧ u ≤ P := by
  have h1 : l ∣ u * D := ⟨P, by rw [h.1, Nat.mul_comm]⟩
  have h2 : l ∣ D := Nat.Coprime.dvd_of_dvd_mul_left h.2.1.symm h1
  refine ⟨Nat.le_of_dvd hD h2, ?_⟩
  obtain ⟨c, hc⟩ := h2
  have hc0 : 0 < c := Nat.pos_of_ne_zero (by intro z; subst z; omega)
  have h3 : u * c * l = P * l := by rw [← h.1, hc]; grind
  have h4 := Nat.eq_of_mul_eq_mul_right h.2.2 h3
  rw [← h4]
  exact Nat.le_mul_of_pos_right _ hc0
theorem lowT.uniq {P D u l u' l' : Nat} (hD : 0 < D) (h : lowT P D u l) (h' : lowT P D u' l') : u = u' ∧ l = l' := by
  have e1 : u * l' * D = u' * l * D := by
    have : u * D * l' = u' * D * l := by rw [h.1, h'.1]; grind
    grind
  have e2 : u * l' = u' * l := Nat.eq_of_mul_eq_mul_right hD e1
  have d1 : l ∣ l' := by
    refine Nat.Coprime.dvd_of_dvd_mul_left h.2.1.symm (k := l) (n := l') (m := u) ?_
    exact ⟨u', by rw [e2, Nat.mul_comm]⟩
  have d2 : l' ∣ l := by
    refine Nat.Coprime.dvd_of_dvd_mul_left h'.2.1.symm (k := l') (n := l) (m := u') ?_
    exact ⟨u, by rw [← e2, Nat.mul_comm]⟩
  have el := Nat.dvd_antisymm d1 d2
  subst el
  exact ⟨Nat.eq_of_mul_eq_mul_right h.2.2 e2, rfl⟩
/-- the same fraction, over other numbers -/
theorem lowT.sc {p W P D u l : Nat} (h : lowT p W u l) (hW : 0 < W) (e : p * D = P * W) : lowT P D u l := by
  refine ⟨?_, h.2.1, h.2.2⟩
  have : u * D * W = P * l * W := by
    have h1 : u * W * D = p * l * D := by rw [h.1]
    have h2 : p * l * D = p * D * l := by grind
    rw [h2, e] at h1
    grind
  exact Nat.eq_of_mul_eq_mul_right hW this
theorem lowT.ex {P D : Nat} (hD : 0 < D) : lowT P D (P / Nat.gcd P D) (D / Nat.gcd P D) := by
  have hg : 0 < Nat.gcd P D := Nat.gcd_pos_of_pos_right _ hD
  refine ⟨?_, Nat.coprime_div_gcd_div_gcd hg, Nat.div_pos (Nat.gcd_le_right _ hD) hg⟩
  obtain ⟨a, ha⟩ := Nat.gcd_dvd_left P D
  obtain ⟨b, hb⟩ := Nat.gcd_dvd_right P D
  have e1 : P / Nat.gcd P D = a := by
    have := Nat.mul_div_cancel_left a hg
    rw [← ha] at this; exact this
  have e2 : D / Nat.gcd P D = b := by
    have := Nat.mul_div_cancel_left b hg
    rw [← hb] at this; exact this
  rw [e1, e2]
  calc a * D = a * (Nat.gcd P D * b) := by rw [← hb]
    _ = Nat.gcd P D * a * b := by grind
    _ = P * b := by rw [← ha]
abbrev Tr : Type := (Nat → Nat) × (Nat → Nat) × (Nat → Nat) × (Nat → Nat) × (Nat → Nat)
/-- what is foretold, year by year: numbers over a lower part -/
def fcs (n : Nat) (A B : Nat → Nat) (w v : Tr) (P S : Nat → Nat) : Nat → (Nat → Nat) × Nat
  | 0 => (fun s => prd B n / B s * A s, prd B n)
  | y + 1 => (trP v.2.1 v.2.2.1 v.2.2.2.1 v.2.2.2.2 y (fun t => mvs (trP w.2.1 w.2.2.1 w.2.2.2.1 w.2.2.2.2 y (fcs n A B w v P S y).1 (w.1 y)) S P (prd S n) t n) (v.1 y),
      trD v.2.2.2.2 y (trD w.2.2.2.2 y (fcs n A B w v P S y).2 (w.1 y) * prd S n) (v.1 y))
def lng (n : Nat) (P : Nat → Nat) (D : Nat) : Prop := ∃ s, s < n ∧ ∃ u l, lowT (P s) D u l ∧ ¬ (u < 2 ^ 600 ∧ l < 2 ^ 600)
theorem lng_mk {n D s u l : Nat} {P : Nat → Nat} (hs : s < n) (h : lowT (P s) D u l) (h2 : ¬ (u < 2 ^ 600 ∧ l < 2 ^ 600)) : lng n P D := by
  unfold lng
  exact ⟨s, hs, u, l, h, h2⟩
theorem sm_mvs {n c : Nat} {p S P : Nat → Nat} (hS : ∀ f, f < n → S f = sm (fun t => P (f * 6 + t)) n) (hd : ∀ f, f < n → ¬ p f = 0 → S f ∣ c) : sm (fun t => mvs p S P c t n) n = sm p n * c := by
  have e1 : ∀ t i, mvs p S P c t i = sm (fun f => p f * (c / S f * P (f * 6 + t))) i := by
    intro t i
    induction i with
    | zero => rfl
    | succ i ih => show mvs p S P c t i + _ = _; rw [ih]; rfl
  have e2 : sm (fun t => mvs p S P c t n) n = sm (fun t => sm (fun f => p f * (c / S f * P (f * 6 + t))) n) n := sm_congr fun t _ => e1 t n
  rw [e2, sm_swap, ← sm_mul]
  refine sm_congr fun f hf => ?_
  by_cases z : p f = 0
  · rw [z, Nat.zero_mul]
    have : sm (fun t => 0 * (c / S f * P (f * 6 + t))) n = sm (fun t => P (f * 6 + t) * 0) n := sm_congr fun t _ => by rw [Nat.zero_mul, Nat.mul_zero]
    rw [this, sm_mul, Nat.mul_zero]
  · have : sm (fun t => p f * (c / S f * P (f * 6 + t))) n = sm (fun t => P (f * 6 + t) * (p f * (c / S f))) n := sm_congr fun t _ => by grind
    rw [this, sm_mul, ← hS f hf]
    have h1 := Nat.div_mul_cancel (hd f hf z)
    calc S f * (p f * (c / S f)) = p f * (c / S f * S f) := by grind
      _ = p f * c := by rw [h1]
theorem eqf_mvs {n c Q W D : Nat} {p p' P' S P : Nat → Nat} (hS : ∀ f, f < n → 0 < S f) (hd : ∀ f, f < n → ¬ p f = 0 → S f ∣ c) (hq : ∀ f, f < n → S f ∣ Q) (he : eqf n p W P' D) (hW : 0 < W) (hD : 0 < D) (hp : ∀ t, t < n → p' t = mvs p S P c t n) : eqf n p' (W * c) (fun t => mvs P' S P Q t n) (D * Q) := by
  intro t ht
  rw [hp t ht]
  have main : ∀ i, i ≤ n → mvs p S P c t i * (D * Q) = mvs P' S P Q t i * (W * c) := by
    intro i
    induction i with
    | zero => intro _; show 0 * _ = 0 * _; rw [Nat.zero_mul, Nat.zero_mul]
    | succ i ih =>
      intro hi
      show (mvs p S P c t i + p i * (c / S i * P (i * 6 + t))) * (D * Q) = (mvs P' S P Q t i + P' i * (Q / S i * P (i * 6 + t))) * (W * c)
      rw [Nat.add_mul, Nat.add_mul, ih (by omega)]
      congr 1
      by_cases z : p i = 0
      · have h1 := he i (by omega)
        rw [z, Nat.zero_mul] at h1
        have h2 : P' i = 0 := by
          rcases Nat.mul_eq_zero.mp h1.symm with w | w
          · exact w
          · omega
        rw [z, h2, Nat.zero_mul, Nat.zero_mul, Nat.zero_mul, Nat.zero_mul]
      · obtain ⟨c1, hc1⟩ := hd i (by omega) z
        obtain ⟨q1, hq1⟩ := hq i (by omega)
        have hs := hS i (by omega)
        have e1 : c / S i = c1 := by rw [hc1]; exact Nat.mul_div_cancel_left _ hs
        have e2 : Q / S i = q1 := by rw [hq1]; exact Nat.mul_div_cancel_left _ hs
        rw [e1, e2, hc1, hq1]
        have h1 := he i (by omega)
        calc p i * (c1 * P (i * 6 + t)) * (D * (S i * q1)) = p i * D * (c1 * P (i * 6 + t) * (S i * q1)) := by grind
          _ = P' i * W * (c1 * P (i * 6 + t) * (S i * q1)) := by rw [h1]
          _ = P' i * (q1 * P (i * 6 + t)) * (W * (S i * c1)) := by grind
  exact main n (Nat.le_refl _)
