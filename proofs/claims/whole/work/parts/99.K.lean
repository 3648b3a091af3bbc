section PQ
variable {g : xG} {h : xHp} {nx S m ob n : Nat}
theorem q_unit {a : Int32} (hV : Inv h S m ob n) : PairI g M_X9_unit M_X10_unit [.int a] S m ob n h nx := by
  obtain ⟨mk, kd, tx, len, R, lm, ft, A, Bs, wk, ev, w, s, f, hI, hX, hM, hR, hob, d1, d2⟩ := hV
  unfold PairI
  refine c_unit hI hX (fun u u1 u2 e hl h1 hX1 hO1 => finI (si_unit hI u1 u2 hl) hX1 hM hob hO1 d1 d2 (r_unit hI hR (fun u' v1 v2 e' _ s' hR' => ?_) (fun u' v1 v2 e' hl' => absurd hl' (by omega)) (fun z => absurd e (z u u1 u2)))) (fun u u1 u2 e hl => finI hI hX hM hob Off.rf d1 d2 (r_unit hI hR (fun u' _ _ _ hl' => absurd hl' (by omega)) (fun _ _ _ _ _ s' hR' => ⟨rfl, hR'⟩) (fun z => absurd e (z u u1 u2)))) (fun z => finI hI hX hM hob Off.rf d1 d2 (r_unit hI hR (fun u' v1 v2 e' => absurd e' (z u' v1 v2)) (fun u' v1 v2 e' => absurd e' (z u' v1 v2)) (fun _ s' hR' => ⟨rfl, hR'⟩)))
  cases nj e e' (by omega) (by omega)
  exact ⟨rfl, hR'⟩
theorem q_kind {a b : Int32} (hV : Inv h S m ob n) : PairI g M_X9_kind M_X10_kind [.int a, .int b] S m ob n h nx := by
  obtain ⟨mk, kd, tx, len, R, lm, ft, A, Bs, wk, ev, w, s, f, hI, hX, hM, hR, hob, d1, d2⟩ := hV
  unfold PairI
  refine c_kind hI hX (fun t k ht hk e1 e2 h1 hX1 hO1 => finI (si_kind hI hk) hX1 hM hob hO1 d1 d2 (r_kind hR (fun t' k' ht' hk' e1' e2' s' hR' => ?_) (fun z => absurd e2 (z t k ht hk e1)))) (fun z => finI hI hX hM hob Off.rf d1 d2 (r_kind hR (fun t' k' ht' hk' e1' e2' => absurd e2' (z t' k' ht' hk' e1')) (fun _ s' hR' => ⟨rfl, hR'⟩)))
  cases nj e1 e1' (by omega) (by omega)
  cases nj e2 e2' (by omega) (by omega)
  exact ⟨rfl, hR'⟩
theorem q_least {a : Int32} (hV : Inv h S m ob n) : PairI g M_X9_least M_X10_least [.int a] S m ob n h nx := by
  obtain ⟨mk, kd, tx, len, R, lm, ft, A, Bs, wk, ev, w, s, f, hI, hX, hM, hR, hob, d1, d2⟩ := hV
  unfold PairI
  refine c_least hI hX (fun k hk e h1 hX1 hO1 => finI (si_least hI hk) hX1 hM hob hO1 d1 d2 (r_least hR (fun k' hk' e' s' hR' => ?_) (fun z => absurd e (z k hk)))) (fun z => finI hI hX hM hob Off.rf d1 d2 (r_least hR (fun k' hk' e' => absurd e' (z k' hk')) (fun _ s' hR' => ⟨rfl, hR'⟩)))
  cases nj e e' (by omega) (by omega)
  exact ⟨rfl, hR'⟩
theorem q_start {a : Int32} {xa xb : Int64} (hV : Inv h S m ob n) : PairI g M_X9_start M_X10_start [.int a, .long xa, .long xb] S m ob n h nx := by
  obtain ⟨mk, kd, tx, len, R, lm, ft, A, Bs, wk, ev, w, s, f, hI, hX, hM, hR, hob, d1, d2⟩ := hV
  have hn : n ≤ 6 := hI.1.2
  unfold PairI
  refine c_start hI hX (fun t u v ht huv hv hv2 e1 e2 e3 h1 hX1 hO1 => finI (si_start hI huv hv hv2) hX1 hM hob hO1 d1 d2 (r_start hR (fun t' u' v' ht' huv' hv' hv2' e1' e2' e3' s' hR' => ?_) (fun z => absurd e3 (z t u v ht huv hv hv2 e1 e2)))) (fun z => finI hI hX hM hob Off.rf d1 d2 (r_start hR (fun t' u' v' ht' huv' hv' hv2' e1' e2' e3' => absurd e3' (z t' u' v' ht' huv' hv' hv2' e1' e2')) (fun _ s' hR' => ⟨rfl, hR'⟩)))
  cases nj e1 e1' (by omega) (by omega)
  cases lj e2 e2' (by omega) (by omega)
  cases lj e3 e3' (by omega) (by omega)
  exact ⟨rfl, hR'⟩
theorem q_part2 {a : Int32} {x : Int64} (hV : Inv h S m ob n) : PairI g M_X9_part2 M_X10_part2 [.int a, .long x] S m ob n h nx := by
  obtain ⟨mk, kd, tx, len, R, lm, ft, A, Bs, wk, ev, w, s, f, hI, hX, hM, hR, hob, d1, d2⟩ := hV
  have hn : n ≤ 6 := hI.1.2
  unfold PairI
  refine c_part2 hI hX (fun t ht e1 hx h1 hX1 hO1 => finI (si_part2 hI hx) hX1 hM hob hO1 d1 d2 (r_part2 hR (fun t' ht' e1' hx' s' hR' => ?_) (fun z => absurd hx (z t ht e1)))) (fun z => finI hI hX hM hob Off.rf d1 d2 (r_part2 hR (fun t' ht' e1' hx' => absurd hx' (z t' ht' e1')) (fun _ s' hR' => ⟨rfl, hR'⟩)))
  cases nj e1 e1' (by omega) (by omega)
  exact ⟨rfl, hR'⟩
theorem q_works {a b c : Int32} {xa xb : Int64} (hV : Inv h S m ob n) : PairI g M_X9_works M_X10_works [.int a, .int b, .int c, .long xa, .long xb] S m ob n h nx := by
  obtain ⟨mk, kd, tx, len, R, lm, ft, A, Bs, wk, ev, w, s, f, hI, hX, hM, hR, hob, d1, d2⟩ := hV
  have hn : n ≤ 6 := hI.1.2
  unfold PairI
  refine c_works hI hX (fun y p t u v hy hp ht hne huv hv hv2 e1 e2 e3 e4 e5 hl h1 hX1 hO1 => finI (si_works hI hy hp ht hne huv hv hv2 hl) hX1 hM hob hO1 d1 d2 (r_works hI hR (fun y' p' t' u' v' hy' hp' ht' hne' huv' hv' hv2' e1' e2' e3' e4' e5' hl' s' hR' => ?_) (fun y' p' t' u' v' hy' hp' ht' hne' huv' hv' hv2' e1' e2' e3' e4' e5' hl' => ?_) (fun z => absurd e5 (z y p t u v hy hp ht hne huv hv hv2 e1 e2 e3 e4)))) (fun y p t u v hy hp ht hne huv hv hv2 e1 e2 e3 e4 e5 hl => finI hI hX hM hob Off.rf d1 d2 (r_works hI hR (fun y' p' t' u' v' hy' hp' ht' hne' huv' hv' hv2' e1' e2' e3' e4' e5' hl' => ?_) (fun y' p' t' u' v' hy' hp' ht' hne' huv' hv' hv2' e1' e2' e3' e4' e5' hl' s' hR' => ⟨rfl, hR'⟩) (fun z => absurd e5 (z y p t u v hy hp ht hne huv hv hv2 e1 e2 e3 e4)))) (fun z => finI hI hX hM hob Off.rf d1 d2 (r_works hI hR (fun y' p' t' u' v' hy' hp' ht' hne' huv' hv' hv2' e1' e2' e3' e4' e5' => absurd e5' (z y' p' t' u' v' hy' hp' ht' hne' huv' hv' hv2' e1' e2' e3' e4')) (fun y' p' t' u' v' hy' hp' ht' hne' huv' hv' hv2' e1' e2' e3' e4' e5' => absurd e5' (z y' p' t' u' v' hy' hp' ht' hne' huv' hv' hv2' e1' e2' e3' e4')) (fun _ s' hR' => ⟨rfl, hR'⟩)))
  · cases nj e1 e1' (by omega) (by omega)
    cases nj e2 e2' (by omega) (by omega)
    cases nj e3 e3' (by omega) (by omega)
    cases lj e4 e4' (by omega) (by omega)
    cases lj e5 e5' (by omega) (by omega)
    exact ⟨rfl, hR'⟩
  · cases nj e1 e1' (by omega) (by omega)
    exact absurd hl' (by omega)
  · cases nj e1 e1' (by omega) (by omega)
    exact absurd hl' (by omega)
theorem q_event {a b c : Int32} {xa xb : Int64} (hV : Inv h S m ob n) : PairI g M_X9_event M_X10_event [.int a, .int b, .int c, .long xa, .long xb] S m ob n h nx := by
  obtain ⟨mk, kd, tx, len, R, lm, ft, A, Bs, wk, ev, w, s, f, hI, hX, hM, hR, hob, d1, d2⟩ := hV
  have hn : n ≤ 6 := hI.1.2
  unfold PairI
  refine c_event hI hX (fun y p t u v hy hp ht hne huv hv hv2 e1 e2 e3 e4 e5 hl h1 hX1 hO1 => finI (si_event hI hy hp ht hne huv hv hv2 hl) hX1 hM hob hO1 d1 d2 (r_event hI hR (fun y' p' t' u' v' hy' hp' ht' hne' huv' hv' hv2' e1' e2' e3' e4' e5' hl' s' hR' => ?_) (fun y' p' t' u' v' hy' hp' ht' hne' huv' hv' hv2' e1' e2' e3' e4' e5' hl' => ?_) (fun z => absurd e5 (z y p t u v hy hp ht hne huv hv hv2 e1 e2 e3 e4)))) (fun y p t u v hy hp ht hne huv hv hv2 e1 e2 e3 e4 e5 hl => finI hI hX hM hob Off.rf d1 d2 (r_event hI hR (fun y' p' t' u' v' hy' hp' ht' hne' huv' hv' hv2' e1' e2' e3' e4' e5' hl' => ?_) (fun y' p' t' u' v' hy' hp' ht' hne' huv' hv' hv2' e1' e2' e3' e4' e5' hl' s' hR' => ⟨rfl, hR'⟩) (fun z => absurd e5 (z y p t u v hy hp ht hne huv hv hv2 e1 e2 e3 e4)))) (fun z => finI hI hX hM hob Off.rf d1 d2 (r_event hI hR (fun y' p' t' u' v' hy' hp' ht' hne' huv' hv' hv2' e1' e2' e3' e4' e5' => absurd e5' (z y' p' t' u' v' hy' hp' ht' hne' huv' hv' hv2' e1' e2' e3' e4')) (fun y' p' t' u' v' hy' hp' ht' hne' huv' hv' hv2' e1' e2' e3' e4' e5' => absurd e5' (z y' p' t' u' v' hy' hp' ht' hne' huv' hv' hv2' e1' e2' e3' e4')) (fun _ s' hR' => ⟨rfl, hR'⟩)))
  · cases nj e1 e1' (by omega) (by omega)
    cases nj e2 e2' (by omega) (by omega)
    cases nj e3 e3' (by omega) (by omega)
    cases lj e4 e4' (by omega) (by omega)
    cases lj e5 e5' (by omega) (by omega)
    exact ⟨rfl, hR'⟩
  · cases nj e1 e1' (by omega) (by omega)
    exact absurd hl' (by omega)
  · cases nj e1 e1' (by omega) (by omega)
    exact absurd hl' (by omega)
theorem q_grade (hV : Inv h S m ob n) : PairI g M_X9_grade M_X10_grade [] S m ob n h nx := by
  obtain ⟨mk, kd, tx, len, R, lm, ft, A, Bs, wk, ev, w, s, f, hI, hX, hM, hR, hob, d1, d2⟩ := hV
  unfold PairI
  exact c_grade hI hX (fun z h1 R' hq hok hX1 hO1 => finI (si_grade hI hok) hX1 hM hob hO1 d1 d2 (r_grade hI hR (fun _ s' hR' => ⟨rfl, hR' R' hq⟩) (fun z' => absurd (z.symm.trans z') (by decide)))) (fun z h1 hX1 hO1 => finI (si_grade hI hI.2.2.2.2.1) hX1 hM hob hO1 d1 d2 (r_grade hI hR (fun z' => absurd (z.symm.trans z') (by decide)) (fun _ s' hR' => ⟨rfl, hR'⟩)))
theorem q_graded {a b : Int32} (hV : Inv h S m ob n) : PairI g M_X9_graded M_X10_graded [.int a, .int b] S m ob n h nx := by
  obtain ⟨mk, kd, tx, len, R, lm, ft, A, Bs, wk, ev, w, s, f, hI, hX, hM, hR, hob, d1, d2⟩ := hV
  unfold PairI
  refine c_graded hI hX (fun t y ht hy e1 e2 => finI hI hX hM hob Off.rf d1 d2 (r_graded hR (fun t' y' ht' hy' e1' e2' s' hR' => ?_) (fun z => absurd e2 (z t y ht hy e1)))) (fun z => finI hI hX hM hob Off.rf d1 d2 (r_graded hR (fun t' y' ht' hy' e1' e2' => absurd e2' (z t' y' ht' hy' e1')) (fun _ s' hR' => ⟨rfl, hR'⟩)))
  cases nj e1 e1' (by omega) (by omega)
  cases nj e2 e2' (by omega) (by omega)
  exact ⟨rfl, hR'⟩
theorem q_missing {k : Int32} (hV : Inv h S m ob n) : PairI g M_X9_missing M_X10_missing [.int k] S m ob n h nx := by
  obtain ⟨mk, kd, tx, len, R, lm, ft, A, Bs, wk, ev, w, s, f, hI, hX, hM, hR, hob, d1, d2⟩ := hV
  unfold PairI
  refine c_missing hI hX (fun i hi hg e => finI hI hX hM hob Off.rf d1 d2 (r_missing hI hR (fun i' hi' hg' e' s' hR' => ?_) (fun z => absurd e (z i hi hg)))) (fun z => finI hI hX hM hob Off.rf d1 d2 (r_missing hI hR (fun i' hi' hg' e' => absurd e' (z i' hi' hg')) (fun _ s' hR' => ⟨rfl, hR'⟩)))
  have l1 := cnt_le (f := gp (agr mk R)) i
  have l2 := cnt_le (f := gp (agr mk R)) i'
  cases cnt_inj hg hg' ((nI_eq (by omega) (by omega)).mp (e.trans e'.symm))
  exact ⟨rfl, hR'⟩
theorem q_joined {a b : Int32} (hV : Inv h S m ob n) : PairI g M_X9_joined M_X10_joined [.int a, .int b] S m ob n h nx := by
  obtain ⟨mk, kd, tx, len, R, lm, ft, A, Bs, wk, ev, w, s, f, hI, hX, hM, hR, hob, d1, d2⟩ := hV
  have hn : n ≤ 6 := hI.1.2
  unfold PairI
  refine c_joined hI hX (fun t y ht hy e1 e2 h1 hX1 hO1 => finI hI hX1 hM hob hO1 d1 d2 (r_joined hI hR (fun t' y' ht' hy' e1' e2' s' hR' => ?_) (fun z => absurd e2 (z t y ht hy e1)))) (fun z => finI hI hX hM hob Off.rf d1 d2 (r_joined hI hR (fun t' y' ht' hy' e1' e2' => absurd e2' (z t' y' ht' hy' e1')) (fun _ s' hR' => ⟨rfl, hR'⟩)))
  cases nj e1 e1' (by omega) (by omega)
  cases nj e2 e2' (by omega) (by omega)
  exact ⟨rfl, hR'⟩
theorem q_span {a b c d : Int32} (hV : Inv h S m ob n) : PairL g M_X9_span M_X10_span [.int a, .int b, .int c, .int d] S m ob n h nx := by
  obtain ⟨mk, kd, tx, len, R, lm, ft, A, Bs, wk, ev, w, s, f, hI, hX, hM, hR, hob, d1, d2⟩ := hV
  have hn : n ≤ 6 := hI.1.2
  unfold PairL
  refine c_span hI hX (fun t y i j ht hy hi hj e1 e2 e3 e4 h1 hX1 hO1 => finL hI hX1 hM hob hO1 d1 d2 (r_span hI hR (fun t' y' i' j' ht' hy' hi' hj' e1' e2' e3' e4' s' hR' => ?_) (fun z => absurd e4 (z t y i j ht hy hi hj e1 e2 e3)))) (fun z => finL hI hX hM hob Off.rf d1 d2 (r_span hI hR (fun t' y' i' j' ht' hy' hi' hj' e1' e2' e3' e4' => absurd e4' (z t' y' i' j' ht' hy' hi' hj' e1' e2' e3')) (fun _ s' hR' => ⟨rfl, hR'⟩)))
  cases nj e1 e1' (by omega) (by omega)
  cases nj e2 e2' (by omega) (by omega)
  cases nj e3 e3' (by omega) (by omega)
  cases nj e4 e4' (by omega) (by omega)
  exact ⟨rfl, hR'⟩
theorem q_drawn {a b : Int32} {sd : Int64} (hV : Inv h S m ob n) : PairI g M_X9_drawn M_X10_drawn [.long sd, .int a, .int b] S m ob n h nx := by
  obtain ⟨mk, kd, tx, len, R, lm, ft, A, Bs, wk, ev, w, s, f, hI, hX, hM, hR, hob, d1, d2⟩ := hV
  unfold PairI
  refine c_drawn hI hX (fun t y ht hy e1 e2 h1 hX1 hO1 => finI hI hX1 hM hob hO1 d1 d2 (r_drawn hI hR (fun t' y' ht' hy' e1' e2' s' hR' => ?_) (fun z => absurd e2 (z t y ht hy e1)))) (fun z => finI hI hX hM hob Off.rf d1 d2 (r_drawn hI hR (fun t' y' ht' hy' e1' e2' => absurd e2' (z t' y' ht' hy' e1')) (fun _ s' hR' => ⟨rfl, hR'⟩)))
  cases nj e1 e1' (by omega) (by omega)
  cases nj e2 e2' (by omega) (by omega)
  exact ⟨rfl, hR'⟩
theorem q_agree {a b c : Int32} (hV : Inv h S m ob n) : PairL g M_X9_agree M_X10_agree [.int a, .int b, .int c] S m ob n h nx := by
  obtain ⟨mk, kd, tx, len, R, lm, ft, A, Bs, wk, ev, w, s, f, hI, hX, hM, hR, hob, d1, d2⟩ := hV
  unfold PairL
  refine c_agree hI hX (fun t y j ht hy hne hj e1 e2 e3 => finL hI hX hM hob Off.rf d1 d2 (r_agree hI hR (fun t' y' j' ht' hy' hne' hj' e1' e2' e3' s' hR' => ?_) (fun z => absurd e3 (z t y j ht hy hne hj e1 e2)))) (fun z => finL hI hX hM hob Off.rf d1 d2 (r_agree hI hR (fun t' y' j' ht' hy' hne' hj' e1' e2' e3' => absurd e3' (z t' y' j' ht' hy' hne' hj' e1' e2')) (fun _ s' hR' => ⟨rfl, hR'⟩)))
  cases nj e1 e1' (by omega) (by omega)
  cases nj e2 e2' (by omega) (by omega)
  cases nj e3 e3' (by omega) (by omega)
  exact ⟨rfl, hR'⟩
theorem q_sums {a : Int32} (hV : Inv h S m ob n) : PairI g M_X9_sums M_X10_sums [.int a] S m ob n h nx := by
  obtain ⟨mk, kd, tx, len, R, lm, ft, A, Bs, wk, ev, w, s, f, hI, hX, hM, hR, hob, d1, d2⟩ := hV
  unfold PairI
  refine c_sums hI hX (fun y hy e1 hl h1 hX1 hO1 => finI hI hX1 hM hob hO1 d1 d2 (r_sums hI hR (fun y' hy' e1' hl' s' hR' => ?_) (fun y' hy' e1' hl' => ?_) (fun z => absurd e1 (z y hy)))) (fun y hy e1 hl h1 hX1 hO1 => finI hI hX1 hM hob hO1 d1 d2 (r_sums hI hR (fun y' hy' e1' hl' => ?_) (fun y' hy' e1' hl' s' hR' => ⟨rfl, hR'⟩) (fun z => absurd e1 (z y hy)))) (fun z => finI hI hX hM hob Off.rf d1 d2 (r_sums hI hR (fun y' hy' e1' => absurd e1' (z y' hy')) (fun y' hy' e1' => absurd e1' (z y' hy')) (fun _ s' hR' => ⟨rfl, hR'⟩)))
  · cases nj e1 e1' (by omega) (by omega)
    exact ⟨rfl, hR'⟩
  · cases nj e1 e1' (by omega) (by omega)
    obtain ⟨z, z1, z2⟩ := hl'
    exact absurd z2 (hl z z1)
  · cases nj e1 e1' (by omega) (by omega)
    obtain ⟨z, z1, z2⟩ := hl
    exact absurd z2 (hl' z z1)
theorem q_worth {a x : Int32} (hV : Inv h S m ob n) : PairL g M_X9_worth M_X10_worth [.int a, .int x] S m ob n h nx := by
  obtain ⟨mk, kd, tx, len, R, lm, ft, A, Bs, wk, ev, w, s, f, hI, hX, hM, hR, hob, d1, d2⟩ := hV
  unfold PairL
  refine c_worth hI hX (fun y hy e1 hl h1 u l hX1 ho hO1 => finL hI hX1 hM hob hO1 d1 d2 (r_worth hI hR (fun y' hy' e1' hl' s' u' l' hR' ho' => ?_) (fun y' hy' e1' hl' => ?_) (fun z => absurd e1 (z y hy)))) (fun y hy e1 hl h1 hX1 hO1 => finL hI hX1 hM hob hO1 d1 d2 (r_worth hI hR (fun y' hy' e1' hl' => ?_) (fun y' hy' e1' hl' s' hR' => ⟨rfl, hR'⟩) (fun z => absurd e1 (z y hy)))) (fun z => finL hI hX hM hob Off.rf d1 d2 (r_worth hI hR (fun y' hy' e1' => absurd e1' (z y' hy')) (fun y' hy' e1' => absurd e1' (z y' hy')) (fun _ s' hR' => ⟨rfl, hR'⟩)))
  · cases nj e1 e1' (by omega) (by omega)
    obtain ⟨q1, q2⟩ := lowT.uniq (fa_ok hI y hy).1 ho ho'
    rw [q1, q2]
    exact ⟨rfl, hR'⟩
  · cases nj e1 e1' (by omega) (by omega)
    obtain ⟨z, z1, z2⟩ := hl'
    exact absurd z2 (hl z z1)
  · cases nj e1 e1' (by omega) (by omega)
    obtain ⟨z, z1, z2⟩ := hl
    exact absurd z2 (hl' z z1)
theorem q_target {a : Int32} {xa xb : Int64} (hV : Inv h S m ob n) : PairI g M_X9_target M_X10_target [.int a, .long xa, .long xb] S m ob n h nx := by
  obtain ⟨mk, kd, tx, len, R, lm, ft, A, Bs, wk, ev, w, s, f, hI, hX, hM, hR, hob, d1, d2⟩ := hV
  have hn : n ≤ 6 := hI.1.2
  unfold PairI
  refine c_target hI hX (fun t u v ht huv hv hv2 e1 e2 e3 h1 y hy hl hc hcy hX1 hO1 => finI hI hX1 hM hob hO1 d1 d2 (r_target hI hR (fun t' u' v' ht' huv' hv' hv2' e1' e2' e3' s' y' hy' hl' hc' hcy' hR' => ?_) (fun t' u' v' ht' huv' hv' hv2' e1' e2' e3' s' y' hy' hl' hc' hR' => ?_) (fun z => absurd e3 (z t u v ht huv hv hv2 e1 e2)))) (fun t u v ht huv hv hv2 e1 e2 e3 h1 y hy hl hc hX1 hO1 => finI hI hX1 hM hob hO1 d1 d2 (r_target hI hR (fun t' u' v' ht' huv' hv' hv2' e1' e2' e3' s' y' hy' hl' hc' hcy' hR' => ?_) (fun t' u' v' ht' huv' hv' hv2' e1' e2' e3' s' y' hy' hl' hc' hR' => ⟨rfl, hR'⟩) (fun z => absurd e3 (z t u v ht huv hv hv2 e1 e2)))) (fun z => finI hI hX hM hob Off.rf d1 d2 (r_target hI hR (fun t' u' v' ht' huv' hv' hv2' e1' e2' e3' => absurd e3' (z t' u' v' ht' huv' hv' hv2' e1' e2')) (fun t' u' v' ht' huv' hv' hv2' e1' e2' e3' => absurd e3' (z t' u' v' ht' huv' hv' hv2' e1' e2')) (fun _ s' hR' => ⟨rfl, hR'⟩)))
  · cases nj e1 e1' (by omega) (by omega)
    cases lj e2 e2' (by omega) (by omega)
    cases lj e3 e3' (by omega) (by omega)
    rcases Nat.lt_trichotomy y y' with z | z | z
    · exact absurd hcy (hc' y z)
    · rw [z]
      exact ⟨rfl, hR'⟩
    · exact absurd hcy' (hc y' z)
  · cases nj e1 e1' (by omega) (by omega)
    cases lj e2 e2' (by omega) (by omega)
    cases lj e3 e3' (by omega) (by omega)
    by_cases z : y < y'
    · exact absurd hcy (hc' y z).2
    · rcases hl' with q | ⟨q, q1, q2⟩
      · omega
      · exact absurd q2 (hl q (by omega))
  · cases nj e1 e1' (by omega) (by omega)
    cases lj e2 e2' (by omega) (by omega)
    cases lj e3 e3' (by omega) (by omega)
    by_cases z : y' < y
    · exact absurd hcy' (hc y' z).2
    · rcases hl with q | ⟨q, q1, q2⟩
      · omega
      · exact absurd q2 (hl' q (by omega))
end PQ
