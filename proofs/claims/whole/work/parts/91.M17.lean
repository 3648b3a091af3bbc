/-! the reference: grade -/
theorem rdR_add {n : Nat} {tx : Nat → Nat} {W : Wd} {k : Nat} {D : Rl} (h : (rdR n tx W k D).1 = true) : ∃ a c cm b v, (rdR n tx W k D).2.2 = rlAdd D a c cm b v := by
  have hV : ∀ k a c cm b, (rdV n tx W k D a c cm b).1 = true → ∃ a c cm b v, (rdV n tx W k D a c cm b).2.2 = rlAdd D a c cm b v := by
    intro k a c cm b h
    unfold rdV at h ⊢
    split at h
    · cases h
    · rename_i v hv
      exact ⟨a, c, cm, b, v, rfl⟩
  have hV' : ∀ k a c cm b, (rdV n tx W k D a c cm b).1 = true → ∃ a' c' cm' b' v, (rdV n tx W k D a c cm b).2.2 = rlAdd D a' c' cm' b' v := by
    intro k a c cm b h
    unfold rdV at h ⊢
    split at h
    · cases h
    · rename_i v hv
      exact ⟨a, c, cm, b, v, rfl⟩
  have hB : ∀ k a c, (rdB n tx W k D a c).1 = true → ∃ a' c' cm' b' v, (rdB n tx W k D a c).2.2 = rlAdd D a' c' cm' b' v := by
    intro k a c h
    unfold rdB at h ⊢
    split at h
    · rename_i q
      rw [if_pos q]
      split at h
      · cases h
      · rename_i b hb
        split at h
        · rename_i q2
          rw [if_pos q2]
          exact hV' _ _ _ _ _ h
        · cases h
    · cases h
  unfold rdR at h ⊢
  split at h
  · rename_i q
    rw [if_pos q]
    exact hV' _ _ _ _ _ h
  · rename_i q
    rw [if_neg q]
    split at h
    · rename_i q2
      rw [if_pos q2]
      split at h
      · cases h
      · exact hB _ _ _ h
    · rename_i q2
      rw [if_neg q2]
      exact hB _ _ _ h
theorem enR_of {n : Nat} {f f' : Nat → Int32} {R R' : Rl} {k : Nat} (h : enR n f R k) (hf : ∀ i, 6 * k ≤ i → i < 6 * k + 6 → f' i = f i) (h1 : R'.1 k = R.1 k) (h2 : R'.2.1 k = R.2.1 k) (h3 : R'.2.2.1 k = R.2.2.1 k) (h4 : R'.2.2.2.1 k = R.2.2.2.1 k) (h5 : R'.2.2.2.2.1 k = R.2.2.2.2.1 k) : enR n f' R' k := by
  unfold enR at h ⊢
  rw [h1, h2, h3, h4, h5, hf (6 * k) (by omega) (by omega), hf (6 * k + 1) (by omega) (by omega), hf (6 * k + 2) (by omega) (by omega), hf (6 * k + 3) (by omega) (by omega), hf (6 * k + 4) (by omega) (by omega), hf (6 * k + 5) (by omega) (by omega)]
  exact h
section M17
variable {g : xG} {Q : mQ} {P : pQ} {s : MV} {x0 : Nat} {n len lm ft : Nat} {mk : Nat → Option Nat} {kd tx A Bs : Nat → Nat} {R : Rl} {wk ev : Tr} {w : Nat → Int}
theorem l_grade {W : Wd} {r : Rd} (h6 : s.n ≤ 6) (hW : wR s tx len W)
    (h1 : r.1 = true → ∀ k wr dn f rl, (∀ j, j < r.2.2.2.2.2.2.2 → enR s.n rl r.2.2 j) → r.2.2.2.2.2.2.2 ≤ 20 → Q (some (.int (nI r.2.2.2.2.2.2.2))) (MV.u_fr (MV.u_rl (MV.u_ru (MV.u_sz (MV.u_dr (MV.u_dn (MV.u_wr (MV.u_at_ s k) wr) dn) f) 0) r.2.2.2.2.2.2.2) rl) 0))
    (h0 : r.1 = false → ∀ dn f, Q (some (.int ((-1) - nI r.2.1))) (MV.u_sz (MV.u_dr (MV.u_dn (MV.u_wr (MV.u_at_ s r.2.1) 1) dn) f) 0)) :
    ∀ (d k : Nat) (f : Nat → Int32) (D : Rl), D.2.2.2.2.2 + d = 20 → k ≤ 121 → rlOK s.n D → (∀ j, j < D.2.2.2.2.2 → enR s.n f D j) → rdRs s.n tx W d k D = r → BlkM g M_X10_grade x0 Q 26 [(0, .ref x0), (1, .int (nI 1))] [] (MV.u_dr (MV.u_dn (MV.u_wr (MV.u_at_ s k) 0) D.2.2.2.2.2) f) := by
  have bad : ∀ k dn f, r.1 = false → r.2.1 = k → BlkM g M_X10_grade x0 Q 26 [(0, .ref x0), (1, .int (nI 0))] [] (MV.u_dr (MV.u_dn (MV.u_wr (MV.u_at_ s k) 1) dn) f) := by
    intro k dn f hr hk
    subst hk
    exact v_X10_grade_26 ⟨by decide, fun _ => ⟨by show 1 < 2 ^ 31; decide, fun z => absurd z (by show ¬ (1 : Nat) = 0; decide), fun _ => h0 hr dn f⟩, fun z => absurd rfl z⟩
  have good : ∀ k f, r.1 = true → (∀ j, j < r.2.2.2.2.2.2.2 → enR s.n f r.2.2 j) → r.2.2.2.2.2.2.2 ≤ 20 → BlkM g M_X10_grade x0 Q 26 [(0, .ref x0), (1, .int (nI 0))] [] (MV.u_dr (MV.u_dn (MV.u_wr (MV.u_at_ s k) 0) r.2.2.2.2.2.2.2) f) := by
    intro k f hr hf h20
    have cp : ∀ (m i : Nat) (rl : Nat → Int32), i + m = 6 * r.2.2.2.2.2.2.2 → (∀ j, j < i → rl j = f j) → BlkM g M_X10_grade x0 Q 130 [(0, .ref x0), (2, .int (nI i))] [] (MV.u_rl (MV.u_ru (MV.u_sz (MV.u_dr (MV.u_dn (MV.u_wr (MV.u_at_ s k) 0) r.2.2.2.2.2.2.2) f) 0) r.2.2.2.2.2.2.2) rl) := by
      intro m
      induction m with
      | zero =>
        intro i rl hi hc
        refine v_X10_grade_130 ⟨⟨by omega, by show 6 * r.2.2.2.2.2.2.2 < _; omega⟩, fun _ => h1 hr k 0 _ f rl (fun j hj => ?_) h20, fun z => absurd z (by show ¬ i < 6 * r.2.2.2.2.2.2.2; omega)⟩
        exact enR_of (hf j hj) (fun i' _ hi2 => hc i' (by omega)) rfl rfl rfl rfl rfl
      | succ m ih =>
        intro i rl hi hc
        refine v_X10_grade_130 ⟨⟨by omega, by show 6 * r.2.2.2.2.2.2.2 < _; omega⟩, fun z => absurd z (by show ¬ 6 * r.2.2.2.2.2.2.2 ≤ i; omega), fun _ => ⟨by omega, by omega, ih (i + 1) (va_up rl i (f i)) (by omega) (fun j hj => ?_)⟩⟩
        by_cases z : j = i
        · subst z; exact up_s
        · rw [up_n z]; exact hc j (by omega)
    exact v_X10_grade_26 ⟨by decide, fun _ => ⟨by show 0 < 2 ^ 31; decide, fun _ => cp (6 * r.2.2.2.2.2.2.2) 0 s.rl (by omega) (fun j hj => absurd hj (by omega)), fun z => absurd rfl z⟩, fun z => absurd rfl z⟩
  intro d
  induction d with
  | zero =>
    intro k f D hd hk hok hen hr
    replace hr : (false, k, D) = r := hr
    refine v_X10_grade_26 ⟨by decide, fun z => absurd z (by decide), fun _ => m_readRule20 (by show D.2.2.2.2.2 = 20; omega) ⟨rfl, by show 1 < 2 ^ 31; decide, fun _ => ⟨by show 1 < 2 ^ 31; decide, fun _ => bad k _ f (by rw [← hr]) (by rw [← hr]), fun z => absurd z (by show ¬ (1 : Nat) = 0; decide)⟩, fun z => absurd z (by show ¬ (1 : Nat) = 0; decide)⟩⟩
  | succ d ih =>
    intro k f D hd hk hok hen hr
    rw [rdRs_s] at hr
    have hok2 := rdR_ok (k := k) hW.2.2.2.2.1 hW.2.2.2.1 hok (by omega)
    refine v_X10_grade_26 ⟨by decide, fun z => absurd z (by decide), fun _ => m_readRule (s := (MV.u_dr (MV.u_dn (MV.u_wr (MV.u_at_ s k) 0) D.2.2.2.2.2) f)) (D := D) (tx := tx) (len := len) (W := W) h6 hW hk rfl (by show D.2.2.2.2.2 < 20; omega) rfl (fun hT f' hf' hfi => ⟨rfl, ?_⟩) (fun hF dn' f' => ⟨rfl, ?_⟩)⟩
    · replace hT : (rdR s.n tx W k D).1 = true := hT
      replace hf' : enR s.n f' (rdR s.n tx W k D).2.2 D.2.2.2.2.2 := hf'
      replace hfi : ∀ i, i < 6 * D.2.2.2.2.2 → f' i = f i := hfi
      rw [if_pos hT] at hr
      obtain ⟨o1, o2, o3⟩ := hok2 hT
      obtain ⟨a, c, cm, b, v, hadd⟩ := rdR_add hT
      have hen' : ∀ j, j < (rdR s.n tx W k D).2.2.2.2.2.2.2 → enR s.n f' (rdR s.n tx W k D).2.2 j := by
        intro j hj
        by_cases z : j = D.2.2.2.2.2
        · subst z; exact hf'
        · have hj2 : j < D.2.2.2.2.2 := by omega
          refine enR_of (hen j hj2) (fun i _ hi => hfi i (by omega)) ?_ ?_ ?_ ?_ ?_
          all_goals rw [hadd]
          all_goals exact up_n z
      have hwn : s.wn = W.2.2 := hW.1
      have hw120 := hW.2.2.2.2.2.1
      have hk' : (rdR s.n tx W k D).2.1 < 2 ^ 31 := by omega
      have hnw : (0 : Nat) < 2 ^ 31 := by decide
      refine ⟨hnw, fun z => absurd rfl z, fun _ => ?_⟩
      refine m_is1 (s := (MV.u_dr (MV.u_dn (MV.u_wr (MV.u_at_ s ((rdR s.n tx W k D).2.1)) 0) (D.2.2.2.2.2 + 1)) f')) (tx := tx) (len := len) (W := W) (j := 9) hW hk' (by decide) rfl ⟨_, rfl, tI _, fun z => ⟨hnw, fun y => absurd rfl y, fun _ => ⟨⟨hk', by show s.wn < _; omega⟩, fun y => ?_, fun y => ?_⟩⟩, fun z => ?_⟩
      · replace y : s.wn ≤ (rdR s.n tx W k D).2.1 := y
        rw [if_pos (by omega)] at hr
        have hr2 : r.2 = (rdR s.n tx W k D).2 := by rw [← hr]
        have := good (rdR s.n tx W k D).2.1 f' (by rw [← hr]) (by rw [hr2]; exact hen') (by rw [hr2]; omega)
        rw [hr2, o2] at this
        exact this
      · replace y : (rdR s.n tx W k D).2.1 < s.wn := y
        have z' : wIs tx W (rdR s.n tx W k D).2.1 9 = false := t0 z
        rw [if_neg (by omega), z'] at hr
        exact bad _ _ _ (by rw [← hr]; rfl) (by rw [← hr]; rfl)
      · have z' : wIs tx W (rdR s.n tx W k D).2.1 9 = true := t1 z
        have hlt := wIs_lt z'
        rw [if_neg (by omega), if_pos z'] at hr
        have := ih ((rdR s.n tx W k D).2.1 + 1) f' (rdR s.n tx W k D).2.2 (by omega) (by omega) o3 hen' hr
        rw [o2] at this
        exact this
    · replace hF : (rdR s.n tx W k D).1 = false := hF
      rw [if_neg (by rw [hF]; decide)] at hr
      refine ⟨by show 1 < 2 ^ 31; decide, fun _ => ⟨by show 1 < 2 ^ 31; decide, fun _ => bad _ _ _ (by rw [← hr]) (by rw [← hr]), fun z => absurd z (by show ¬ (1 : Nat) = 0; decide)⟩, fun z => absurd z (by show ¬ (1 : Nat) = 0; decide)⟩
theorem r_grade (hI : ssI n mk kd tx len R lm ft A Bs wk ev w) (hX : Rel s n mk kd tx len R lm ft A Bs wk ev w)
    (hp1 : (grdR n tx len).1 = true → ∀ s', (∀ R', rlEq R' (grdR n tx len).2.2 → Rel s' n mk kd tx 0 R' lm ft A Bs wk ev w) → Q (some (.int (nI (grdR n tx len).2.2.2.2.2.2.2))) s')
    (hp0 : (grdR n tx len).1 = false → ∀ s', Rel s' n mk kd tx 0 R lm ft A Bs wk ev w → Q (some (.int ((-1) - nI (grdR n tx len).2.1))) s') : CtM g M_X10_grade [.ref x0] x0 s Q := by
  obtain ⟨rfl, ⟨b1, b2, b3, b4⟩, q5, ⟨q6, q6'⟩, q7, q8, q9, q10, q11, q12, q13, q14, q15, q16⟩ := hX
  have hl := hI.2.2.2.1.1
  have ht : ∀ i, i < len → tx i < 65536 := fun i hi => by have := hI.2.2.2.1.2 i hi; omega
  refine CtM.of (by decide +kernel) (Nat.le_of_ble_eq_true rfl) (v_X10_grade_0 (m_split (s := (MV.u_cd s 0)) (tx := tx) (len := len) q6 hl q6' ht wds_ok.1 (by have := wds_ok (tx := tx) (len := len); omega) (fun wn wf wt hW => ⟨rfl, ?_⟩)))
  refine l_grade (s := (MV.u_wt (MV.u_wf (MV.u_wn (MV.u_cd s 0) wn) wf) wt)) (tx := tx) (len := len) (W := wds tx len) (r := grdR s.n tx len) b1.2 hW (fun hr k wr dn f rl he h20 => ?_) (fun hr dn f => ?_) 20 0 s.dr rl0 rfl (by decide) ⟨by decide, fun i hi => absurd hi (by show ¬ i < 0; omega)⟩ (fun j hj => absurd hj (by show ¬ j < 0; omega)) rfl
  · refine hp1 hr _ (fun R' hR' => ⟨rfl, ⟨b1, b2, b3, ?_⟩, q5, ⟨rfl, fun i hi => absurd hi (by omega)⟩, q7, q8, q9, q10, q11, q12, q13, q14, Nat.zero_le _, fun h => absurd h (by show ¬ (0 : Nat) = 1; decide)⟩)
    obtain ⟨e1, e2⟩ := hR'
    refine ⟨e1.symm, by omega, fun j hj => ?_⟩
    obtain ⟨c1, c2, c3, c4, c5⟩ := e2 j hj
    exact enR_of (he j (by omega)) (fun _ _ _ => rfl) c1 c2 c3 c4 c5
  · exact hp0 hr _ ⟨rfl, ⟨b1, b2, b3, b4⟩, q5, ⟨rfl, fun i hi => absurd hi (by omega)⟩, q7, q8, q9, q10, q11, q12, q13, q14, q15, q16⟩
end M17
