/-! Marks -/
abbrev RuAt (h : xHp) (q n : Nat) (tx : Nat → Nat) (len : Nat) (ws we : Nat → Nat) (w nxt hd dr : Nat) (R D : Rl) : Prop :=
  h q = some (xo 8 [.int (nI n), .ref (q + 1), .int (nI len), .ref (q + 2), .ref (q + 3), .int (nI w), .int (nI nxt), .ref hd, .ref dr]) ∧ h (q + 1) = some (xnc 120 tx) ∧ h (q + 2) = some (xna 120 ws) ∧ h (q + 3) = some (xna 120 we) ∧ (hd = q + 4 ∧ dr = q + 10 ∨ hd = q + 10 ∧ dr = q + 4) ∧ RlAt h hd R ∧ RlAt h dr D
theorem RuAt.of {h h' : xHp} {q n len w nxt hd dr lo sz : Nat} {tx ws we : Nat → Nat} {R D : Rl} (k : RuAt h q n tx len ws we w nxt hd dr R D) (o : Off lo sz h h') (z : q + 16 ≤ lo ∨ lo + sz ≤ q) : RuAt h' q n tx len ws we w nxt hd dr R D := by
  obtain ⟨k0, k1, k2, k3, k4, k5, k6⟩ := k
  exact ⟨(o q (by omega)).trans k0, (o (q + 1) (by omega)).trans k1, (o (q + 2) (by omega)).trans k2, (o (q + 3) (by omega)).trans k3, k4, k5.of o (by omega), k6.of o (by omega)⟩
theorem MkAt.setSeen {h : xHp} {m i s : Nat} {mk gr : Nat → Option Nat} {kd so : Nat → Nat} (k : MkAt h m mk gr kd so) : MkAt (xup h (m + 1) (xia 480 (va_up (fun i => oI (mk i)) i (nI s)))) m (va_up mk i (some s)) gr kd so := by
  obtain ⟨k0, k1, k2, k3, k4⟩ := k
  refine ⟨(xup_n (by omega)).trans k0, (xup_s _ _ _).trans ?_, (xup_n (by omega)).trans k2, (xup_n (by omega)).trans k3, (xup_n (by omega)).trans k4⟩
  have : va_up (fun i => oI (mk i)) i (nI s) = fun j => oI (va_up mk i (some s) j) := by
    funext j
    by_cases z : j = i
    · subst z; rw [up_s, up_s]; rfl
    · rw [up_n z, up_n z]
  rw [this]
theorem MkAt.setGr {h : xHp} {m i : Nat} {o : Option Nat} {x : Int32} {mk gr : Nat → Option Nat} {kd so : Nat → Nat} (k : MkAt h m mk gr kd so) (hx : x = oI o) : MkAt (xup h (m + 2) (xia 120 (va_up (fun i => oI (gr i)) i x))) m mk (va_up gr i o) kd so := by
  obtain ⟨k0, k1, k2, k3, k4⟩ := k
  refine ⟨(xup_n (by omega)).trans k0, (xup_n (by omega)).trans k1, (xup_s _ _ _).trans ?_, (xup_n (by omega)).trans k3, (xup_n (by omega)).trans k4⟩
  have : va_up (fun i => oI (gr i)) i x = fun j => oI (va_up gr i o j) := by
    funext j
    by_cases z : j = i
    · subst z; rw [up_s, up_s]; exact hx
    · rw [up_n z, up_n z]
  rw [this]
theorem MkAt.setKd {h : xHp} {m : Nat} {mk gr : Nat → Option Nat} {kd kd' so : Nat → Nat} (k : MkAt h m mk gr kd so) : MkAt (xup h (m + 3) (xna 10 kd')) m mk gr kd' so := by
  obtain ⟨k0, k1, k2, k3, k4⟩ := k
  exact ⟨(xup_n (by omega)).trans k0, (xup_n (by omega)).trans k1, (xup_n (by omega)).trans k2, xup_s _ _ _, (xup_n (by omega)).trans k4⟩
theorem MkAt.setSo {h : xHp} {m : Nat} {mk gr : Nat → Option Nat} {kd so so' : Nat → Nat} (k : MkAt h m mk gr kd so) : MkAt (xup h (m + 4) (xna 4 so')) m mk gr kd so' := by
  obtain ⟨k0, k1, k2, k3, k4⟩ := k
  exact ⟨(xup_n (by omega)).trans k0, (xup_n (by omega)).trans k1, (xup_n (by omega)).trans k2, (xup_n (by omega)).trans k3, xup_s _ _ _⟩
/-- how many of the places below q hold something -/
def cnt (f : Nat → Bool) : Nat → Nat
  | 0 => 0
  | q + 1 => cnt f q + (if f q then 1 else 0)
theorem cnt_s {f : Nat → Bool} {q : Nat} : cnt f (q + 1) = cnt f q + (if f q then 1 else 0) := rfl
theorem cnt_le {f : Nat → Bool} : ∀ q, cnt f q ≤ q
  | 0 => Nat.le_refl _
  | q + 1 => by
    have := cnt_le (f := f) q
    rw [cnt_s]
    split <;> omega
abbrev both (mk : Nat → Option Nat) (a b q : Nat) : Bool := (mk (q * 4 + a)).isSome && (mk (q * 4 + b)).isSome
abbrev saw (mk : Nat → Option Nat) (a s q : Nat) : Bool := mk (q * 4 + a) == some s
section MRK
variable {g : xG} {post : xPost} {h : xHp} {nx : Nat}
def mk0 (i : Nat) : Option Nat := if i < 480 then none else some 0
def gr0 (i : Nat) : Option Nat := if i < 120 then none else some 0
theorem c_MkInit (m : Nat) (hnx : m + 1 = nx) (h0 : h m = some (xo 4 [.null, .null, .null, .null])) (hp : ∀ h', MkAt h' m mk0 gr0 (fun _ => 0) (fun _ => 0) → Off m 5 h h' → post none h' (m + 5)) : Ct g M_X3_init [.ref m] h nx post := by
  subst hnx
  have fin2 : ∀ (d i : Nat) (f : Nat → Int32) (h' : xHp), 120 - i = d → i ≤ 120 → h' m = some (xo 4 [.ref (m + 1), .ref (m + 2), .ref (m + 3), .ref (m + 4)]) → h' (m + 1) = some (xia 480 (fun i => oI (mk0 i))) → h' (m + 2) = some (xia 120 f) → (∀ j, (j < i → f j = -1) ∧ (120 ≤ j → f j = nI 0)) → h' (m + 3) = some (xna 10 (fun _ => 0)) → h' (m + 4) = some (xna 4 (fun _ => 0)) → Off m 5 h h' → Blk g M_X3_init post 62 [(0, .ref m), (1, .int (nI i))] [] h' (m + 5) 4 614 := by
    intro d
    induction d with
    | zero =>
      intro i f h' hd hi k0 k1 k2 hf k3 k4 hO
      have ef : f = fun j => oI (gr0 j) := by
        funext j
        unfold gr0
        by_cases z : j < 120
        · rw [if_pos z]; exact (hf j).1 (by omega)
        · rw [if_neg z]; exact (hf j).2 (by omega)
      subst ef
      exact v_X3_init_62 ⟨_, _, _, _, k0, _, _, k2, ⟨by omega, by decide⟩, fun _ => ⟨by decide, by decide, hp h' ⟨k0, k1, k2, k3, k4⟩ hO⟩, fun q => absurd q (by omega)⟩
    | succ d ih =>
      intro i f h' hd hi k0 k1 k2 hf k3 k4 hO
      refine v_X3_init_62 ⟨_, _, _, _, k0, _, _, k2, ⟨by omega, by decide⟩, fun q => absurd q (by omega), fun _ => ⟨by omega, by decide, ih (i + 1) _ _ (by omega) (by omega) ((xup_n (by omega)).trans k0) ((xup_n (by omega)).trans k1) (xup_s _ _ _) (fun j => ?_) ((xup_n (by omega)).trans k3) ((xup_n (by omega)).trans k4) (hO.up (by omega) (by omega))⟩⟩
      by_cases z : j = i
      · subst z; exact ⟨fun _ => up_s, fun y => absurd y (by omega)⟩
      · rw [up_n z]; exact ⟨fun y => (hf j).1 (by omega), (hf j).2⟩
  have fin1 : ∀ (d i : Nat) (f : Nat → Int32) (h' : xHp), 480 - i = d → i ≤ 480 → h' m = some (xo 4 [.ref (m + 1), .ref (m + 2), .ref (m + 3), .ref (m + 4)]) → h' (m + 1) = some (xia 480 f) → (∀ j, (j < i → f j = -1) ∧ (480 ≤ j → f j = nI 0)) → h' (m + 2) = some (xia 120 (fun _ => nI 0)) → h' (m + 3) = some (xna 10 (fun _ => 0)) → h' (m + 4) = some (xna 4 (fun _ => 0)) → Off m 5 h h' → Blk g M_X3_init post 38 [(0, .ref m), (1, .int (nI i))] [] h' (m + 5) 4 614 := by
    intro d
    induction d with
    | zero =>
      intro i f h' hd hi k0 k1 hf k2 k3 k4 hO
      have ef : f = fun j => oI (mk0 j) := by
        funext j
        unfold mk0
        by_cases z : j < 480
        · rw [if_pos z]; exact (hf j).1 (by omega)
        · rw [if_neg z]; exact (hf j).2 (by omega)
      subst ef
      exact v_X3_init_38 ⟨_, _, _, _, k0, _, _, k1, ⟨by omega, by decide⟩, fun _ => fin2 120 0 _ h' rfl (by decide) k0 k1 k2 (fun j => ⟨fun y => absurd y (by omega), fun _ => rfl⟩) k3 k4 hO, fun q => absurd q (by omega)⟩
    | succ d ih =>
      intro i f h' hd hi k0 k1 hf k2 k3 k4 hO
      refine v_X3_init_38 ⟨_, _, _, _, k0, _, _, k1, ⟨by omega, by decide⟩, fun q => absurd q (by omega), fun _ => ⟨by omega, by decide, ih (i + 1) _ _ (by omega) (by omega) ((xup_n (by omega)).trans k0) (xup_s _ _ _) (fun j => ?_) ((xup_n (by omega)).trans k2) ((xup_n (by omega)).trans k3) ((xup_n (by omega)).trans k4) (hO.up (by omega) (by omega))⟩⟩
      by_cases z : j = i
      · subst z; exact ⟨fun _ => up_s, fun y => absurd y (by omega)⟩
      · rw [up_n z]; exact ⟨fun y => (hf j).1 (by omega), (hf j).2⟩
  refine Ct.of (by decide +kernel) (Nat.le_of_ble_eq_true rfl) (v_X3_init_0 ⟨h0, by omega, by omega, by omega, by omega, ?_⟩)
  refine fin1 480 0 (fun _ => nI 0) _ rfl (by decide) (xup_s _ _ _) ?_ (fun j => ⟨fun y => absurd y (by omega), fun _ => rfl⟩) ?_ ?_ ?_ ?_
  · exact (xup_n (by omega)).trans ((xup_n (by omega)).trans ((xup_n (by omega)).trans ((xup_n (by omega)).trans ((xup_n (by omega)).trans ((xup_n (by omega)).trans ((xup_n (by omega)).trans (xup_s _ _ _)))))))
  · exact (xup_n (by omega)).trans ((xup_n (by omega)).trans ((xup_n (by omega)).trans ((xup_n (by omega)).trans ((xup_n (by omega)).trans (xup_s _ _ _)))))
  · exact (xup_n (by omega)).trans ((xup_n (by omega)).trans ((xup_n (by omega)).trans (xup_s _ _ _)))
  · exact (xup_n (by omega)).trans (xup_s _ _ _)
  · exact (((((((Off.rf.up (by omega) (by omega)).up (by omega) (by omega)).up (by omega) (by omega)).up (by omega) (by omega)).up (by omega) (by omega)).up (by omega) (by omega)).up (by omega) (by omega)).up (by omega) (by omega)
theorem c_see {m t y p s : Nat} {mk gr : Nat → Option Nat} {kd so : Nat → Nat} (hK : MkAt h m mk gr kd so) (ht : t < 10) (hy : y < 12) (hpe : p < 4) (hp : ∀ h', MkAt h' m (va_up mk ((t * 12 + y) * 4 + p) (some s)) gr kd so → Off m 5 h h' → post none h' nx) : Ct g M_X3_see [.ref m, .int (nI t), .int (nI y), .int (nI p), .int (nI s)] h nx post :=
  Ct.of (by decide +kernel) (Nat.le_of_ble_eq_true rfl) (v_X3_see_0 ⟨_, _, _, _, hK.1, c_place ⟨_, rfl, _, _, hK.2.1, by omega, by decide, hp _ hK.setSeen (Off.rf.up (by omega) (by omega))⟩⟩)
theorem c_setKind {m t k : Nat} {mk gr : Nat → Option Nat} {kd so : Nat → Nat} (hK : MkAt h m mk gr kd so) (ht : t < 10) (hp : ∀ h', MkAt h' m mk gr (va_up kd t k) so → Off m 5 h h' → post none h' nx) : Ct g M_X3_setKind [.ref m, .int (nI t), .int (nI k)] h nx post :=
  Ct.of (by decide +kernel) (Nat.le_of_ble_eq_true rfl) (v_X3_setKind_0 ⟨_, _, _, _, hK.1, _, _, hK.2.2.2.1, ht, by decide, hp _ hK.setKd (Off.rf.up (by omega) (by omega))⟩)
theorem c_sortMarks {m pl n : Nat} {mk gr : Nat → Option Nat} {kd so : Nat → Nat} (hK : MkAt h m mk gr kd so) (hpl : pl < 120) (hn : n ≤ 6) (hmk : ∀ i s, i < 480 → mk i = some s → s < n) (hp : ∀ h' so', MkAt h' m mk gr kd so' → (∀ i, i < (sr (fun p => mk (pl * 4 + p)) 4).2 → so' i = (sr (fun p => mk (pl * 4 + p)) 4).1 i) → Off m 5 h h' → post (some (.int (nI (sr (fun p => mk (pl * 4 + p)) 4).2))) h' nx) : Ct g M_X3_sortMarks [.ref m, .int (nI pl)] h nx post := by
  have hlt : ∀ p s, p < 4 → mk (pl * 4 + p) = some s → s < n := fun p s hp hs => hmk _ s (by omega) hs
  have main : ∀ (d i : Nat) (so' : Nat → Nat) (h' : xHp), 4 - i = d → i ≤ 4 → MkAt h' m mk gr kd so' → (∀ j, j < (sr (fun p => mk (pl * 4 + p)) i).2 → so' j = (sr (fun p => mk (pl * 4 + p)) i).1 j) → (∀ j, j < (sr (fun p => mk (pl * 4 + p)) i).2 → so' j < n) → Off m 5 h h' → Blk g M_X3_sortMarks post 4 [(0, .ref m), (1, .int (nI pl)), (2, .int (nI (sr (fun p => mk (pl * 4 + p)) i).2)), (3, .int (nI i))] [] h' nx 0 0 := by
    intro d
    induction d with
    | zero =>
      intro i so' h' hd hi hK' hs hsn hO
      have : i = 4 := by omega
      subst this
      exact v_X3_sortMarks_4 ⟨⟨by decide, by decide⟩, fun _ => hp h' so' hK' hs hO, fun q => absurd q (by decide)⟩
    | succ d ih =>
      intro i so' h' hd hi hK' hs hsn hO
      have hsl := sr_le (m := fun p => mk (pl * 4 + p)) i
      refine v_X3_sortMarks_4 ⟨⟨by omega, by decide⟩, fun q => absurd q (by omega), fun _ => ⟨_, _, _, _, hK'.1, _, _, hK'.2.1, by omega, by decide, fun q => ?_, fun q => ?_⟩⟩
      · have hz : mk (pl * 4 + i) = none := (oI_m1 (fun s hs => by have := hlt i s (by omega) hs; omega)).mp q
        have e := sr_none (m := fun p => mk (pl * 4 + p)) (p := i) hz
        have i1 := ih (i + 1) so' h' (by omega) (by omega) hK' (by rw [e]; exact hs) (by rw [e]; exact hsn) hO
        rw [e] at i1
        exact i1
      · obtain ⟨x, hx⟩ := oI_nm1 q
        have hxn := hlt i x (by omega) hx
        rw [hx]
        have e := sr_some (m := fun p => mk (pl * 4 + p)) (p := i) hx
        have inner : ∀ (j : Nat) (so1 : Nat → Nat) (h1 : xHp), j ≤ (sr (fun p => mk (pl * 4 + p)) i).2 → MkAt h1 m mk gr kd so1 → Off m 5 h h1 → (∀ l, l < j → so1 l < n) → (∀ l, l < (sr (fun p => mk (pl * 4 + p)) i).2 + 1 → insF x j so1 l = insF x (sr (fun p => mk (pl * 4 + p)) i).2 (sr (fun p => mk (pl * 4 + p)) i).1 l) → Blk g M_X3_sortMarks post 30 [(0, .ref m), (1, .int (nI pl)), (2, .int (nI (sr (fun p => mk (pl * 4 + p)) i).2)), (3, .int (nI i)), (4, .int (nI x)), (5, .int (nI j))] [] h1 nx 0 0 := by
          have done : ∀ (j : Nat) (so1 : Nat → Nat) (h1 : xHp), MkAt h1 m mk gr kd so1 → Off m 5 h h1 → (∀ l, l < (sr (fun p => mk (pl * 4 + p)) i).2 + 1 → va_up so1 j x l = insF x (sr (fun p => mk (pl * 4 + p)) i).2 (sr (fun p => mk (pl * 4 + p)) i).1 l) → Blk g M_X3_sortMarks post 4 [(0, .ref m), (1, .int (nI pl)), (2, .int (nI ((sr (fun p => mk (pl * 4 + p)) i).2 + 1))), (3, .int (nI (i + 1)))] [] (xup h1 (m + 4) (xna 4 (va_up so1 j x))) nx 0 0 := by
            intro j so1 h1 hK1 hO1 hl
            have i1 := ih (i + 1) (va_up so1 j x) _ (by omega) (by omega) hK1.setSo (by rw [e]; exact hl) (by
              rw [e]
              intro l hl2
              have hl2 : l < (sr (fun p => mk (pl * 4 + p)) i).2 + 1 := hl2
              rw [hl l hl2]
              refine insF_lt hxn (k := (sr (fun p => mk (pl * 4 + p)) i).2) _ (Nat.le_refl _) (fun a ha ha2 => ?_) l (by omega)
              have ha3 : a < (sr (fun p => mk (pl * 4 + p)) i).2 := by omega
              rw [← hs a ha3]; exact hsn a ha3) (hO1.up (by omega) (by omega))
            rw [e] at i1
            exact i1
          intro j
          induction j with
          | zero =>
            intro so1 h1 hj hK1 hO1 hlt1 hl
            exact v_X3_sortMarks_30 ⟨by decide, fun _ => ⟨_, _, _, _, hK1.1, _, _, hK1.2.2.2.2, _, rfl, by decide, by decide, done 0 so1 h1 hK1 hO1 hl⟩, fun q => absurd q (by omega)⟩
          | succ j ihj =>
            intro so1 h1 hj hK1 hO1 hlt1 hl
            have hjn := hlt1 j (by omega)
            rw [insF_s] at hl
            refine v_X3_sortMarks_30 ⟨by omega, fun q => absurd q (by omega), fun _ => ⟨_, _, _, _, hK1.1, by omega, _, _, hK1.2.2.2.2, by omega, by decide, fun q => ?_, fun q => ?_⟩⟩
            · rw [Nat.add_sub_cancel] at q
              have q1 : so1 j ≤ x := (nI_leI (by omega) (by omega)).mp q
              rw [if_pos q1] at hl
              exact ⟨_, rfl, by omega, by decide, done (j + 1) so1 h1 hK1 hO1 hl⟩
            · rw [Nat.add_sub_cancel] at q ⊢
              have q1 : ¬ so1 j ≤ x := fun z => q ((nI_leI (by omega) (by omega)).mpr z)
              rw [if_neg q1] at hl
              refine ⟨by omega, by omega, by decide, by omega, by decide, by omega, ihj (va_up so1 (j + 1) (so1 j)) _ (by omega) hK1.setSo (hO1.up (by omega) (by omega)) (fun l hl2 => ?_) hl⟩
              rw [up_n (by omega)]; exact hlt1 l (by omega)
        refine inner _ so' h' (Nat.le_refl _) hK' hO hsn (fun l hl => ?_)
        exact insF_congr _ (k := (sr (fun p => mk (pl * 4 + p)) i).2) (Nat.le_refl _) (fun a ha ha2 => hs a (by omega)) l (by omega)
  exact Ct.of (by decide +kernel) (Nat.le_of_ble_eq_true rfl) (v_X3_sortMarks_0 (main 4 0 so h rfl (by decide) hK (fun j hj => absurd hj (Nat.not_lt_zero _)) (fun j hj => absurd hj (Nat.not_lt_zero _)) Off.rf))
theorem c_ujudge {q n len w nxt hd dr s k : Nat} {tx ws we so : Nat → Nat} {R D : Rl} (hU : RuAt h q n tx len ws we w nxt hd dr R D) (hok : rlOK n R) (hn : n ≤ 6) (hS : h s = some (xna 4 so)) (hk : 0 < k ∧ k ≤ 4) (hso : ∀ i, i < k → so i < 2 ^ 31) (hp : post (some (.int (nI (jd R so k R.2.2.2.2.2 0)))) h nx) : Ct g M_X7_judge [.ref q, .ref s, .int (nI k)] h nx post :=
  Ct.of (by decide +kernel) (Nat.le_of_ble_eq_true rfl) (v_X7_judge_0 ⟨_, _, _, _, _, _, _, _, _, hU.1, _, _, _, _, _, _, hU.2.2.2.2.2.1.1, c_rjudge hU.2.2.2.2.2.1 hok hn hS hk hso ⟨_, rfl, hp⟩⟩)
theorem c_judgePlace {m pl n q len w nxt hd dr : Nat} {mk gr : Nat → Option Nat} {kd so tx ws we : Nat → Nat} {R D : Rl} (hK : MkAt h m mk gr kd so) (hU : RuAt h q n tx len ws we w nxt hd dr R D) (hok : rlOK n R) (hd2 : q + 16 ≤ m ∨ m + 5 ≤ q) (hpl : pl < 120) (hn : n ≤ 6) (hmk : ∀ i s, i < 480 → mk i = some s → s < n) (hp : ∀ h' so', MkAt h' m mk (va_up gr pl (grd R (fun p => mk (pl * 4 + p)))) kd so' → Off m 5 h h' → post none h' nx) : Ct g M_X3_judgePlace [.ref m, .int (nI pl), .ref q] h nx post := by
  have hsl := sr_le (m := fun p => mk (pl * 4 + p)) 4
  refine Ct.of (by decide +kernel) (Nat.le_of_ble_eq_true rfl) (v_X3_judgePlace_0 ⟨_, _, _, _, hK.1, c_sortMarks hK hpl hn hmk (fun h1 so1 hK1 hs1 hO1 => ⟨_, rfl, _, _, _, _, hK1.1, by omega, fun q => ?_, fun q => ⟨_, _, hK1.2.2.1, by omega, by decide, hp _ so1 (hK1.setGr ?_) (hO1.up (by omega) (by omega))⟩⟩)⟩)
  · have hU1 := hU.of hO1 (by omega)
    have hb : ∀ i, i < (sr (fun p => mk (pl * 4 + p)) 4).2 → so1 i < 2 ^ 31 := by
      intro i hi
      have hb2 : ∀ p s, (fun p => if p < 4 then mk (pl * 4 + p) else none) p = some s → s < n := by
        intro p s hps
        have hps : (if p < 4 then mk (pl * 4 + p) else none) = some s := hps
        by_cases z : p < 4
        · rw [if_pos z] at hps; exact hmk _ s (by omega) hps
        · rw [if_neg z] at hps; cases hps
      have e := sr_congr (m := fun p => mk (pl * 4 + p)) (m' := fun p => if p < 4 then mk (pl * 4 + p) else none) (p := 4) (fun i hi => (if_pos hi).symm)
      rw [hs1 i hi, e]
      rw [e] at hi
      have := sr_lt hb2 4 i hi
      omega
    refine ⟨_, _, _, _, _, _, _, _, _, hU1.1, c_ujudge hU1 hok hn hK1.2.2.2.2 ⟨by omega, hsl⟩ hb ⟨_, rfl, _, _, hK1.2.2.1, by omega, by decide, hp _ so1 (hK1.setGr ?_) (hO1.up (by omega) (by omega))⟩⟩
    unfold grd
    rw [if_neg q]
    show nI _ = nI _
    rw [jd_congr (by omega) hs1]
  · unfold grd
    rw [if_pos q]; rfl
theorem c_judgeOne {m t y n q len w nxt hd dr : Nat} {mk gr : Nat → Option Nat} {kd so tx ws we : Nat → Nat} {R D : Rl} (hK : MkAt h m mk gr kd so) (hU : RuAt h q n tx len ws we w nxt hd dr R D) (hok : rlOK n R) (hd2 : q + 16 ≤ m ∨ m + 5 ≤ q) (ht : t < 10) (hy : y < 12) (hn : n ≤ 6) (hmk : ∀ i s, i < 480 → mk i = some s → s < n) (hp : ∀ h' so', MkAt h' m mk (va_up gr (t * 12 + y) (grd R (fun p => mk ((t * 12 + y) * 4 + p)))) kd so' → Off m 5 h h' → post none h' nx) : Ct g M_X3_judgeOne [.ref m, .int (nI t), .int (nI y), .ref q] h nx post :=
  Ct.of (by decide +kernel) (Nat.le_of_ble_eq_true rfl) (v_X3_judgeOne_0 (c_place ⟨_, rfl, _, _, _, _, hK.1, c_judgePlace hK hU hok hd2 (by omega) hn hmk (fun h1 so1 hK1 hO1 => ⟨rfl, hp h1 so1 hK1 hO1⟩)⟩))
theorem c_judgeAll {m n q len w nxt hd dr : Nat} {mk gr : Nat → Option Nat} {kd so tx ws we : Nat → Nat} {R D : Rl} (hK : MkAt h m mk gr kd so) (hU : RuAt h q n tx len ws we w nxt hd dr R D) (hok : rlOK n R) (hd2 : q + 16 ≤ m ∨ m + 5 ≤ q) (hn : n ≤ 6) (hmk : ∀ i s, i < 480 → mk i = some s → s < n) (hp : ∀ h' gr' so', MkAt h' m mk gr' kd so' → (∀ i, i < 120 → gr' i = grd R (fun p => mk (i * 4 + p))) → Off m 5 h h' → post none h' nx) : Ct g M_X3_judgeAll [.ref m, .ref q] h nx post := by
  have main : ∀ (d i : Nat) (gr' : Nat → Option Nat) (so' : Nat → Nat) (h' : xHp), 120 - i = d → i ≤ 120 → MkAt h' m mk gr' kd so' → (∀ j, j < i → gr' j = grd R (fun p => mk (j * 4 + p))) → Off m 5 h h' → Blk g M_X3_judgeAll post 2 [(0, .ref m), (1, .ref q), (2, .int (nI i))] [] h' nx 0 0 := by
    intro d
    induction d with
    | zero =>
      intro i gr' so' h' hdd hi hK' hg hO
      exact v_X3_judgeAll_2 ⟨⟨by omega, by decide⟩, fun _ => hp h' gr' so' hK' (fun j hj => hg j (by omega)) hO, fun q => absurd q (by omega)⟩
    | succ d ih =>
      intro i gr' so' h' hdd hi hK' hg hO
      refine v_X3_judgeAll_2 ⟨⟨by omega, by decide⟩, fun q => absurd q (by omega), fun _ => ⟨_, _, _, _, hK'.1, c_judgePlace hK' (hU.of hO (by omega)) hok hd2 (by omega) hn hmk (fun h1 so1 hK1 hO1 => ⟨rfl, ih (i + 1) _ so1 h1 (by omega) (by omega) hK1 (fun j hj => ?_) (hO.tr hO1)⟩)⟩⟩
      by_cases z : j = i
      · subst z; exact up_s
      · rw [up_n z]; exact hg j (by omega)
  exact Ct.of (by decide +kernel) (Nat.le_of_ble_eq_true rfl) (v_X3_judgeAll_0 (main 120 0 gr so h rfl (by decide) hK (fun j hj => absurd hj (by omega)) Off.rf))
/-- the first state of the things from i on that is of a kind -/
def fst0 (gr : Nat → Option Nat) (kd : Nat → Nat) (t : Nat) : Nat → Nat → Nat
  | 0, _ => 0
  | d + 1, i => if kd i = kd t then (match gr (i * 12) with | some s => s | none => fst0 gr kd t d (i + 1)) else fst0 gr kd t d (i + 1)
def fstS (gr : Nat → Option Nat) (kd : Nat → Nat) (t : Nat) : Nat := match gr (t * 12) with | some s => s | none => fst0 gr kd t 10 0
theorem c_firstState {m t n : Nat} {mk gr : Nat → Option Nat} {kd so : Nat → Nat} (hK : MkAt h m mk gr kd so) (ht : t < 10) (hn : n ≤ 6) (hgr : ∀ i s, i < 120 → gr i = some s → s < n) (hkd : ∀ i, i < 10 → kd i < 2 ^ 31) (hp : post (some (.int (nI (fstS gr kd t)))) h nx) : Ct g M_X3_firstState [.ref m, .int (nI t)] h nx post := by
  have main : ∀ (d i : Nat), 10 - i = d → i ≤ 10 → post (some (.int (nI (fst0 gr kd t d i)))) h nx → Blk g M_X3_firstState post 16 [(0, .ref m), (1, .int (nI t)), (3, .int (nI i))] [] h nx 0 0 := by
    intro d
    induction d with
    | zero =>
      intro i hd hi hp'
      exact v_X3_firstState_16 ⟨⟨by omega, by decide⟩, fun _ => hp', fun q => absurd q (by omega)⟩
    | succ d ih =>
      intro i hd hi hp'
      unfold fst0 at hp'
      refine v_X3_firstState_16 ⟨⟨by omega, by decide⟩, fun q => absurd q (by omega), fun _ => ⟨_, _, _, _, hK.1, _, _, hK.2.2.2.1, by omega, by decide, by omega, by decide, ⟨hkd i (by omega), hkd t ht⟩, fun q => ?_, fun q => c_stateOf hK (by omega) (by decide) ⟨_, rfl, fun q2 => ?_, fun q2 => ⟨_, _, _, _, hK.1, c_stateOf hK (by omega) (by decide) ⟨_, rfl, ?_⟩⟩⟩⟩⟩
      · rw [if_neg q] at hp'
        exact ih (i + 1) (by omega) (by omega) hp'
      · have hz : gr (i * 12) = none := (oI_m1 (fun s hs => by have := hgr (i * 12) s (by omega) hs; omega)).mp q2
        rw [if_pos q, hz] at hp'
        exact ih (i + 1) (by omega) (by omega) hp'
      · obtain ⟨s, hs⟩ := oI_nm1 q2
        have hs' : gr (i * 12) = some s := hs
        rw [if_pos q, hs'] at hp'
        rw [oI_some hs]; exact hp'
  refine Ct.of (by decide +kernel) (Nat.le_of_ble_eq_true rfl) (v_X3_firstState_0 ⟨_, _, _, _, hK.1, c_stateOf hK ht (by decide) ⟨_, rfl, fun q => ?_, fun q => ?_⟩⟩)
  · have hz : gr (t * 12) = none := (oI_m1 (fun s hs => by have := hgr (t * 12) s (by omega) hs; omega)).mp q
    unfold fstS at hp
    rw [hz] at hp
    exact main 10 0 rfl (by decide) hp
  · obtain ⟨s, hs⟩ := oI_nm1 q
    have hs' : gr (t * 12) = some s := hs
    unfold fstS at hp
    rw [hs'] at hp
    rw [oI_some hs]; exact hp
theorem c_bothSaw {m q a b : Nat} {mk gr : Nat → Option Nat} {kd so : Nat → Nat} (hK : MkAt h m mk gr kd so) (hq : q < 120) (ha : a < 4) (hb : b < 4) (hmk : ∀ i s, i < 480 → mk i = some s → s < 6) (hp : post (some (.int (nI (if both mk a b q then 1 else 0)))) h nx) : Ct g M_X3_bothSaw [.ref m, .int (nI q), .int (nI a), .int (nI b)] h nx post := by
  have b1 : ∀ s, mk (q * 4 + a) = some s → s < 2 ^ 31 := fun s hs => by have := hmk _ s (by omega) hs; omega
  have b2 : ∀ s, mk (q * 4 + b) = some s → s < 2 ^ 31 := fun s hs => by have := hmk _ s (by omega) hs; omega
  refine Ct.of (by decide +kernel) (Nat.le_of_ble_eq_true rfl) (v_X3_bothSaw_0 ⟨_, _, _, _, hK.1, _, _, hK.2.1, by omega, by decide, fun z => ?_, fun z => ⟨by omega, by decide, fun z2 => ?_, fun z2 => ?_⟩⟩)
  · have hz := (oI_m1 b1).mp z
    rw [if_neg (by unfold both; rw [hz]; exact Bool.false_ne_true)] at hp
    exact hp
  · have hz := (oI_m1 b2).mp z2
    rw [if_neg (by unfold both; rw [hz]; simp)] at hp
    exact hp
  · obtain ⟨s, hs⟩ := oI_nm1 z
    obtain ⟨s2, hs2⟩ := oI_nm1 z2
    rw [if_pos (by unfold both; rw [hs, hs2]; rfl)] at hp
    exact hp
theorem c_seenByBoth {m a b : Nat} {mk gr : Nat → Option Nat} {kd so : Nat → Nat} (hK : MkAt h m mk gr kd so) (ha : a < 4) (hb : b < 4) (hmk : ∀ i s, i < 480 → mk i = some s → s < 6) (hp : post (some (.int (nI (cnt (both mk a b) 120)))) h nx) : Ct g M_X3_seenByBoth [.ref m, .int (nI a), .int (nI b)] h nx post := by
  have main : ∀ (d i : Nat), 120 - i = d → i ≤ 120 → Blk g M_X3_seenByBoth post 5 [(0, .ref m), (1, .int (nI a)), (2, .int (nI b)), (3, .int (nI (cnt (both mk a b) i))), (4, .int (nI i))] [] h nx 0 0 := by
    intro d
    induction d with
    | zero =>
      intro i hd hi
      have : i = 120 := by omega
      subst this
      exact v_X3_seenByBoth_5 ⟨⟨by decide, by decide⟩, fun _ => hp, fun q => absurd q (by decide)⟩
    | succ d ih =>
      intro i hd hi
      have i1 := ih (i + 1) (by omega) (by omega)
      refine v_X3_seenByBoth_5 ⟨⟨by omega, by decide⟩, fun q => absurd q (by omega), fun _ => ⟨_, _, _, _, hK.1, c_bothSaw hK (by omega) ha hb hmk ⟨_, rfl, ?_, fun q => ?_, fun q => ?_⟩⟩⟩
      · split <;> decide
      · by_cases z : both mk a b i = true
        · rw [if_pos z] at q; exact absurd q (by decide)
        · have e : cnt (both mk a b) (i + 1) = cnt (both mk a b) i := by rw [cnt_s, if_neg z]; rfl
          rw [e] at i1; exact i1
      · by_cases z : both mk a b i = true
        · have e : cnt (both mk a b) (i + 1) = cnt (both mk a b) i + 1 := by rw [cnt_s, if_pos z]
          rw [e] at i1; exact i1
        · rw [if_neg z] at q; exact absurd rfl q
  exact Ct.of (by decide +kernel) (Nat.le_of_ble_eq_true rfl) (v_X3_seenByBoth_0 (main 120 0 rfl (by decide)))
theorem oI_is {o : Option Nat} {s : Nat} (hs : s < 2 ^ 31) (h : ∀ s, o = some s → s < 2 ^ 31) : oI o = nI s ↔ o = some s := by
  match o, h with
  | none, _ => exact ⟨fun q => absurd q.symm (nI_ne_m1 hs), fun q => by cases q⟩
  | some x, h =>
    constructor
    · intro q
      have q : nI x = nI s := q
      rw [(nI_eq (h x rfl) hs).mp q]
    · intro q
      rw [Option.some.inj q]; rfl
theorem c_seenAmong {m a b s : Nat} {mk gr : Nat → Option Nat} {kd so : Nat → Nat} (hK : MkAt h m mk gr kd so) (ha : a < 4) (hb : b < 4) (hs : s < 6) (hmk : ∀ i s, i < 480 → mk i = some s → s < 6) (hp : post (some (.int (nI (cnt (fun q => both mk a b q && saw mk a s q) 120)))) h nx) : Ct g M_X3_seenAmongBoth [.ref m, .int (nI a), .int (nI b), .int (nI s)] h nx post := by
  have main : ∀ (d i : Nat), 120 - i = d → i ≤ 120 → Blk g M_X3_seenAmongBoth post 6 [(0, .ref m), (1, .int (nI a)), (2, .int (nI b)), (3, .int (nI s)), (4, .int (nI (cnt (fun q => both mk a b q && saw mk a s q) i))), (5, .int (nI i))] [] h nx 0 0 := by
    intro d
    induction d with
    | zero =>
      intro i hd hi
      have : i = 120 := by omega
      subst this
      exact v_X3_seenAmongBoth_6 ⟨⟨by decide, by decide⟩, fun _ => hp, fun q => absurd q (by decide)⟩
    | succ d ih =>
      intro i hd hi
      have i1 := ih (i + 1) (by omega) (by omega)
      have b1 : ∀ s, mk (i * 4 + a) = some s → s < 2 ^ 31 := fun s hs => by have := hmk _ s (by omega) hs; omega
      have no : ¬ (both mk a b i && saw mk a s i) = true → Blk g M_X3_seenAmongBoth post 6 [(0, .ref m), (1, .int (nI a)), (2, .int (nI b)), (3, .int (nI s)), (4, .int (nI (cnt (fun q => both mk a b q && saw mk a s q) i))), (5, .int (nI (i + 1)))] [] h nx 0 0 := by
        intro z
        have e : cnt (fun q => both mk a b q && saw mk a s q) (i + 1) = cnt (fun q => both mk a b q && saw mk a s q) i := by rw [cnt_s, if_neg z]; rfl
        rw [e] at i1; exact i1
      refine v_X3_seenAmongBoth_6 ⟨⟨by omega, by decide⟩, fun q => absurd q (by omega), fun _ => ⟨_, _, _, _, hK.1, c_bothSaw hK (by omega) ha hb hmk ⟨_, rfl, ?_, fun q => ?_, fun q => ⟨_, _, _, _, hK.1, _, _, hK.2.1, by omega, by decide, fun q2 => ?_, fun q2 => ?_⟩⟩⟩⟩
      · split <;> decide
      · by_cases z : both mk a b i = true
        · rw [if_pos z] at q; exact absurd q (by decide)
        · exact no (fun y => z (Bool.and_eq_true _ _ ▸ y).1)
      · refine no (fun y => q2 ?_)
        have y2 := (Bool.and_eq_true _ _ ▸ y).2
        exact (oI_is (by omega) b1).mpr (by simpa using y2)
      · by_cases z : both mk a b i = true
        · have y2 : saw mk a s i = true := by
            have := (oI_is (by omega) b1).mp q2
            show (mk (i * 4 + a) == some s) = true
            rw [this]; exact beq_self_eq_true _
          have e : cnt (fun q => both mk a b q && saw mk a s q) (i + 1) = cnt (fun q => both mk a b q && saw mk a s q) i + 1 := by rw [cnt_s, if_pos (by rw [z, y2]; rfl)]
          rw [e] at i1; exact i1
        · rw [if_neg z] at q; exact absurd rfl q
  exact Ct.of (by decide +kernel) (Nat.le_of_ble_eq_true rfl) (v_X3_seenAmongBoth_0 (main 120 0 rfl (by decide)))
theorem c_sameByBoth {m a b s : Nat} {mk gr : Nat → Option Nat} {kd so : Nat → Nat} (hK : MkAt h m mk gr kd so) (ha : a < 4) (hb : b < 4) (hs : s < 6) (hmk : ∀ i s, i < 480 → mk i = some s → s < 6) (hp : post (some (.int (nI (cnt (fun q => saw mk a s q && saw mk b s q) 120)))) h nx) : Ct g M_X3_sameByBoth [.ref m, .int (nI a), .int (nI b), .int (nI s)] h nx post := by
  have main : ∀ (d i : Nat), 120 - i = d → i ≤ 120 → Blk g M_X3_sameByBoth post 6 [(0, .ref m), (1, .int (nI a)), (2, .int (nI b)), (3, .int (nI s)), (4, .int (nI (cnt (fun q => saw mk a s q && saw mk b s q) i))), (5, .int (nI i))] [] h nx 0 0 := by
    intro d
    induction d with
    | zero =>
      intro i hd hi
      have : i = 120 := by omega
      subst this
      exact v_X3_sameByBoth_6 ⟨⟨by decide, by decide⟩, fun _ => hp, fun q => absurd q (by decide)⟩
    | succ d ih =>
      intro i hd hi
      have i1 := ih (i + 1) (by omega) (by omega)
      have b1 : ∀ s, mk (i * 4 + a) = some s → s < 2 ^ 31 := fun s hs => by have := hmk _ s (by omega) hs; omega
      have b2 : ∀ s, mk (i * 4 + b) = some s → s < 2 ^ 31 := fun s hs => by have := hmk _ s (by omega) hs; omega
      have no : ¬ (saw mk a s i && saw mk b s i) = true → Blk g M_X3_sameByBoth post 6 [(0, .ref m), (1, .int (nI a)), (2, .int (nI b)), (3, .int (nI s)), (4, .int (nI (cnt (fun q => saw mk a s q && saw mk b s q) i))), (5, .int (nI (i + 1)))] [] h nx 0 0 := by
        intro z
        have e : cnt (fun q => saw mk a s q && saw mk b s q) (i + 1) = cnt (fun q => saw mk a s q && saw mk b s q) i := by rw [cnt_s, if_neg z]; rfl
        rw [e] at i1; exact i1
      have sb : ∀ {c : Nat}, mk (i * 4 + c) = some s → saw mk c s i = true := by
        intro c hc
        show (mk (i * 4 + c) == some s) = true
        rw [hc]; exact beq_self_eq_true _
      have bs : ∀ {c : Nat}, saw mk c s i = true → mk (i * 4 + c) = some s := by
        intro c hc
        simpa using hc
      refine v_X3_sameByBoth_6 ⟨⟨by omega, by decide⟩, fun q => absurd q (by omega), fun _ => ⟨_, _, _, _, hK.1, _, _, hK.2.1, by omega, by decide, fun q => no (fun y => q ((oI_is (by omega) b1).mpr (bs (Bool.and_eq_true _ _ ▸ y).1))), fun q => ⟨by omega, by decide, fun q2 => no (fun y => q2 ((oI_is (by omega) b2).mpr (bs (Bool.and_eq_true _ _ ▸ y).2))), fun q2 => ?_⟩⟩⟩
      have e : cnt (fun q => saw mk a s q && saw mk b s q) (i + 1) = cnt (fun q => saw mk a s q && saw mk b s q) i + 1 := by
        rw [cnt_s, if_pos (by rw [sb ((oI_is (by omega) b1).mp q), sb ((oI_is (by omega) b2).mp q2)]; rfl)]
      rw [e] at i1; exact i1
  exact Ct.of (by decide +kernel) (Nat.le_of_ble_eq_true rfl) (v_X3_sameByBoth_0 (main 120 0 rfl (by decide)))
/-- graded before a year; one behind the last graded year -/
def bef (gr : Nat → Option Nat) (t : Nat) : Nat → Bool
  | 0 => false
  | y + 1 => bef gr t y || (gr (t * 12 + y)).isSome
def lgr (gr : Nat → Option Nat) (t : Nat) : Nat → Nat
  | 0 => 0
  | y + 1 => if (gr (t * 12 + y)).isSome then y + 1 else lgr gr t y
def gp (gr : Nat → Option Nat) (i : Nat) : Bool := (gr i).isNone && bef gr (i / 12) (i % 12) && decide (i % 12 + 1 < lgr gr (i / 12) 12)
theorem lgr_le {gr : Nat → Option Nat} {t : Nat} : ∀ y, lgr gr t y ≤ y
  | 0 => Nat.le_refl _
  | y + 1 => by
    have := lgr_le (gr := gr) (t := t) y
    unfold lgr
    split <;> omega
theorem lgr_cmp : ∀ L, L < 13 → ∀ y, y < 13 → (nI L - nI 1 ≤ nI y ↔ L ≤ y + 1) := by decide +kernel
theorem i_dec (k : Int32) (c : Nat) : k - nI c + (-1) = k - nI (c + 1) := by
  rw [nI_succ]; grind
theorem i_zero {k : Int32} {c : Nat} : k - nI c = 0 ↔ nI c = k := by
  constructor
  · intro h; grind
  · intro h; grind
theorem c_lastGraded {m t : Nat} {mk gr : Nat → Option Nat} {kd so : Nat → Nat} (hK : MkAt h m mk gr kd so) (ht : t < 10) (hgr : ∀ i s, i < 120 → gr i = some s → s < 6) (hp : post (some (.int (nI (lgr gr t 12) - nI 1))) h nx) : Ct g M_X3_lastGraded [.ref m, .int (nI t)] h nx post := by
  have main : ∀ (y : Nat), y ≤ 12 → lgr gr t y = lgr gr t 12 → Blk g M_X3_lastGraded post 3 [(0, .ref m), (1, .int (nI t)), (2, .int (nI y - nI 1))] [] h nx 0 0 := by
    intro y
    induction y with
    | zero =>
      intro hy he
      refine v_X3_lastGraded_3 ⟨by decide, fun _ => ?_, fun q => absurd q (by decide)⟩
      rw [← he] at hp
      exact hp
    | succ y ih =>
      intro hy he
      have e1 : nI (y + 1) - nI 1 = nI y := n_toP y
      have b1 : ∀ s, gr (t * 12 + y) = some s → s < 2 ^ 31 := fun s hs => by have := hgr _ s (by omega) hs; omega
      refine v_X3_lastGraded_3 ⟨by omega, fun q => absurd q (by omega), fun _ => ⟨_, _, _, _, hK.1, ?_⟩⟩
      rw [e1]
      refine c_stateOf hK ht (by omega) ⟨_, rfl, fun q => ⟨by omega, ?_⟩, fun q => ?_⟩
      · have hz := (oI_m1 b1).mp q
        rw [Nat.add_sub_cancel]
        refine ih (by omega) ?_
        rw [← he]
        show _ = (if (gr (t * 12 + y)).isSome then y + 1 else lgr gr t y)
        rw [hz]; rfl
      · obtain ⟨s, hs⟩ := oI_nm1 q
        have : lgr gr t (y + 1) = y + 1 := by
          show (if (gr (t * 12 + y)).isSome then y + 1 else lgr gr t y) = _
          rw [hs]; rfl
        rw [← he, this, e1] at hp
        exact hp
  exact Ct.of (by decide +kernel) (Nat.le_of_ble_eq_true rfl) (v_X3_lastGraded_0 (main 12 (by decide) rfl))
theorem cnt_same {f : Nat → Bool} {a : Nat} : ∀ d, (∀ i, a ≤ i → i < a + d → f i = false) → cnt f (a + d) = cnt f a
  | 0, _ => rfl
  | d + 1, h => by
    rw [← Nat.add_assoc, cnt_s, cnt_same d (fun i h1 h2 => h i h1 (by omega)), h (a + d) (by omega) (by omega)]
    rfl
theorem c_gap {m : Nat} {k : Int32} {mk gr : Nat → Option Nat} {kd so : Nat → Nat} (hK : MkAt h m mk gr kd so) (hgr : ∀ i s, i < 120 → gr i = some s → s < 6) (hp1 : ∀ i, i < 120 → gp gr i = true → nI (cnt (gp gr) i) = k → post (some (.int (nI (16 * (i / 12) + i % 12)))) h nx) (hp0 : (∀ i, i < 120 → gp gr i = true → ¬ nI (cnt (gp gr) i) = k) → post (some (.int (-1))) h nx) : Ct g M_X3_gap [.ref m, .int k] h nx post := by
  have l23 : ∀ (d t y : Nat), 12 - y = d → y ≤ 12 → t < 10 → (∀ i, i < t * 12 + y → gp gr i = true → ¬ nI (cnt (gp gr) i) = k) →
      ((∀ i, i < (t + 1) * 12 → gp gr i = true → ¬ nI (cnt (gp gr) i) = k) → Blk g M_X3_gap post 4 [(0, .ref m), (2, .int (k - nI (cnt (gp gr) ((t + 1) * 12)))), (3, .int (nI (t + 1)))] [] h nx 0 0) →
      Blk g M_X3_gap post 23 [(0, .ref m), (2, .int (k - nI (cnt (gp gr) (t * 12 + y)))), (3, .int (nI t)), (4, .int (nI (lgr gr t 12) - nI 1)), (5, .int (nI (if bef gr t y then 1 else 0))), (6, .int (nI y))] [] h nx 0 0 := by
    intro d
    induction d with
    | zero =>
      intro t y hd hy ht hno hk
      have : y = 12 := by omega
      subst this
      have hl := lgr_le (gr := gr) (t := t) 12
      refine v_X3_gap_23 ⟨fun q => ?_, fun q => absurd ((lgr_cmp _ (by omega) 12 (by omega)).mpr (by omega)) q⟩
      have e : t * 12 + 12 = (t + 1) * 12 := by omega
      rw [e] at hno ⊢
      exact hk hno
    | succ d ih =>
      intro t y hd hy ht hno hk
      have hl := lgr_le (gr := gr) (t := t) 12
      have ed : (t * 12 + y) / 12 = t := by omega
      have em : (t * 12 + y) % 12 = y := by omega
      have egp : gp gr (t * 12 + y) = ((gr (t * 12 + y)).isNone && bef gr t y && decide (y + 1 < lgr gr t 12)) := by
        unfold gp; rw [ed, em]
      have b1 : ∀ s, gr (t * 12 + y) = some s → s < 2 ^ 31 := fun s hs => by have := hgr _ s (by omega) hs; omega
      have next : gp gr (t * 12 + y) = false → Blk g M_X3_gap post 23 [(0, .ref m), (2, .int (k - nI (cnt (gp gr) (t * 12 + y)))), (3, .int (nI t)), (4, .int (nI (lgr gr t 12) - nI 1)), (5, .int (nI (if bef gr t (y + 1) then 1 else 0))), (6, .int (nI (y + 1)))] [] h nx 0 0 := by
        intro hz
        have i1 := ih t (y + 1) (by omega) (by omega) ht (fun i hi hg => ?_) hk
        · have e : cnt (gp gr) (t * 12 + (y + 1)) = cnt (gp gr) (t * 12 + y) := by
            rw [← Nat.add_assoc, cnt_s, hz]; rfl
          rw [e] at i1
          exact i1
        · by_cases z : i = t * 12 + y
          · subst z; rw [hz] at hg; cases hg
          · exact hno i (by omega) hg
      refine v_X3_gap_23 ⟨fun q => ?_, fun q => ⟨_, _, _, _, hK.1, c_stateOf hK ht (by omega) ⟨_, rfl, fun q2 => ⟨?_, fun q3 => ?_, fun q3 => ⟨fun q4 => ?_, fun q4 => ?_⟩⟩, fun q2 => ?_⟩⟩⟩
      · have hL := (lgr_cmp _ (by omega) y (by omega)).mp q
        have hf : ∀ i, t * 12 + y ≤ i → i < t * 12 + y + (12 - y) → gp gr i = false := by
          intro i h1 h2
          have e1 : i / 12 = t := by omega
          unfold gp
          rw [e1, show decide (i % 12 + 1 < lgr gr t 12) = false from decide_eq_false (by omega), Bool.and_false]
        have e := cnt_same (f := gp gr) (12 - y) hf
        have e2 : t * 12 + y + (12 - y) = (t + 1) * 12 := by omega
        rw [e2] at e hf
        rw [← e]
        refine hk (fun i hi hg => ?_)
        rcases Nat.lt_or_ge i (t * 12 + y) with z | z
        · exact hno i z hg
        · rw [hf i z hi] at hg; cases hg
      · split <;> decide
      · have hb : bef gr t y = false := by
          by_cases z : bef gr t y = true
          · rw [if_pos z] at q3; exact absurd q3 (by decide)
          · simpa using z
        have hz := (oI_m1 b1).mp q2
        have n1 := next (by rw [egp, hb, Bool.and_false, Bool.false_and])
        have e : bef gr t (y + 1) = bef gr t y := by
          show (bef gr t y || (gr (t * 12 + y)).isSome) = _
          rw [hz]; simp
        rw [e] at n1
        exact n1
      · have hb : bef gr t y = true := by
          by_cases z : bef gr t y = true
          · exact z
          · rw [if_neg z] at q3; exact absurd rfl q3
        have hz := (oI_m1 b1).mp q2
        have hL : y + 1 < lgr gr t 12 := by
          rcases Nat.lt_or_ge (y + 1) (lgr gr t 12) with z | z
          · exact z
          · exact absurd ((lgr_cmp _ (by omega) y (by omega)).mpr z) q
        have hgt : gp gr (t * 12 + y) = true := by rw [egp, hz, hb, decide_eq_true hL]; rfl
        have i1 := ih t (y + 1) (by omega) (by omega) ht (fun i hi hg => ?_) hk
        · have e : cnt (gp gr) (t * 12 + (y + 1)) = cnt (gp gr) (t * 12 + y) + 1 := by
            rw [← Nat.add_assoc, cnt_s, hgt]; rfl
          have e3 : bef gr t (y + 1) = bef gr t y := by
            show (bef gr t y || (gr (t * 12 + y)).isSome) = _
            rw [hz]; simp
          rw [e, e3, ← i_dec] at i1
          exact i1
        · by_cases z : i = t * 12 + y
          · subst z; exact fun w => q4 (i_zero.mpr w)
          · exact hno i (by omega) hg
      · have hb : bef gr t y = true := by
          by_cases z : bef gr t y = true
          · exact z
          · rw [if_neg z] at q3; exact absurd rfl q3
        have hz := (oI_m1 b1).mp q2
        have hL : y + 1 < lgr gr t 12 := by
          rcases Nat.lt_or_ge (y + 1) (lgr gr t 12) with z | z
          · exact z
          · exact absurd ((lgr_cmp _ (by omega) y (by omega)).mpr z) q
        have hgt : gp gr (t * 12 + y) = true := by rw [egp, hz, hb, decide_eq_true hL]; rfl
        have := hp1 (t * 12 + y) (by omega) hgt (i_zero.mp q4)
        rw [ed, em] at this
        exact this
      · obtain ⟨s, hs⟩ := oI_nm1 q2
        have n1 := next (by rw [egp, hs]; rfl)
        have e : bef gr t (y + 1) = true := by
          show (bef gr t y || (gr (t * 12 + y)).isSome) = _
          rw [hs]; simp
        rw [e] at n1
        exact n1
  have l4 : ∀ (d t : Nat), 10 - t = d → t ≤ 10 → (∀ i, i < t * 12 → gp gr i = true → ¬ nI (cnt (gp gr) i) = k) → Blk g M_X3_gap post 4 [(0, .ref m), (2, .int (k - nI (cnt (gp gr) (t * 12)))), (3, .int (nI t))] [] h nx 0 0 := by
    intro d
    induction d with
    | zero =>
      intro t hd ht hno
      have : t = 10 := by omega
      subst this
      exact v_X3_gap_4 ⟨⟨by decide, by decide⟩, fun _ => hp0 hno, fun q => absurd q (by decide)⟩
    | succ d ih =>
      intro t hd ht hno
      exact v_X3_gap_4 ⟨⟨by omega, by decide⟩, fun q => absurd q (by omega), fun _ => ⟨_, _, _, _, hK.1, c_lastGraded hK (by omega) hgr ⟨_, rfl, l23 12 t 0 rfl (by decide) (by omega) hno (fun hno2 => ih (t + 1) (by omega) (by omega) hno2)⟩⟩⟩
  have e0 : k - nI (cnt (gp gr) (0 * 12)) = k := by
    show k - nI 0 = k
    rw [nI_0]; grind
  have := l4 10 0 rfl (by decide) (fun i hi => absurd hi (by omega))
  rw [e0] at this
  exact Ct.of (by decide +kernel) (Nat.le_of_ble_eq_true rfl) (v_X3_gap_0 this)
end MRK
