/-! the law's cases -/
/-- class and reference stand for the same told things -/
def Inv (h : xHp) (S m ob n : Nat) : Prop := ∃ (mk : Nat → Option Nat) (kd tx : Nat → Nat) (len : Nat) (R : Rl) (lm ft : Nat) (A Bs : Nat → Nat) (wk ev : Tr) (w : Nat → Int) (s : MV) (f : Nat → Int64), ssI n mk kd tx len R lm ft A Bs wk ev w ∧ Ss h S n mk kd tx len R lm ft A Bs wk ev w ∧ MAt h m s ∧ Rel s n mk kd tx len R lm ft A Bs wk ev w ∧ h ob = some (xla 1 f) ∧ S + 491 + 24 * n ≤ m ∧ m + 22 ≤ ob
def PairI (g : xG) (M1 M2 : xM) (As : List Value) (S m ob n : Nat) (h : xHp) (nx : Nat) : Prop := Ct g M1 (.ref S :: As) h nx (fun r h1 n1 => ∃ v : Int32, r = some (.int v) ∧ (∃ fs, h1 m = some (xo 11 fs)) ∧ Ct g M2 (.ref m :: As) h1 n1 (fun r2 h2 n2 => r2 = some (.int v) ∧ n2 = nx ∧ Inv h2 S m ob n))
def PairL (g : xG) (M1 M2 : xM) (As : List Value) (S m ob n : Nat) (h : xHp) (nx : Nat) : Prop := Ct g M1 (.ref S :: As) h nx (fun r h1 n1 => ∃ v : Int64, r = some (.long v) ∧ (∃ fs, h1 m = some (xo 11 fs)) ∧ Ct g M2 (.ref m :: As) h1 n1 (fun r2 h2 n2 => r2 = some (.long v) ∧ n2 = nx ∧ Inv h2 S m ob n))
theorem lcmp_self (v : Int64) : lg_cmp v v = 0 := by simp [lg_cmp]
theorem Ct.impW {g : xG} {M : xM} {hh : List (Nat × Nat × Nat × Nat)} {args : List Value} {h : xHp} {nx : Nat} {P Q : xPost} (k : CtW g M hh args h nx P) (hi : ∀ r h' nx', P r h' nx' → Q r h' nx') : CtW g M hh args h nx Q := by
  intro p e h1 h2 h3 s m a below h4 h5 h6 h7
  obtain ⟨n, o, q1, q2, q3, ⟨⟨r, h', nx', q4, q5, q6⟩, q7⟩, q8⟩ := k p e h1 h2 h3 s m a below h4 h5 h6 h7
  exact ⟨n, o, q1, q2, q3, ⟨⟨r, h', nx', q4, hi _ _ _ q5, q6⟩, q7⟩, q8⟩
set_option maxRecDepth 20000 in
theorem wM_L_38 : Cond.methodLink "StateSharesLaw" 38 (yL_mark) ∈ lw_gd := lw_in 898 (by decide +kernel) rfl
set_option maxRecDepth 20000 in
theorem ws_L_mark : Cond.static (yL_mark) ∈ lw_gd := lw_in 899 (by decide +kernel) rfl
set_option maxRecDepth 20000 in
theorem wI_StateSharesLaw : Cond.initialized "StateSharesLaw" ∈ lw_gd := lw_in 0 (by decide +kernel) rfl
set_option maxRecDepth 20000 in
theorem wM_L_41 : Cond.methodLink "StateSharesLaw" 41 (yX10_mark) ∈ lw_gd := lw_in 1137 (by decide +kernel) rfl
set_option maxRecDepth 20000 in
theorem wi_X10_mark : Cond.instanceMethod (yX10_mark) ∈ lw_gd := lw_in 1138 (by decide +kernel) rfl
set_option maxRecDepth 20000 in
theorem wS_X10_mark : Cond.selects "StateSharesModel" (yX10_mark) (yX10_mark) ∈ lw_gd := lw_in 1139 (by decide +kernel) rfl
set_option maxRecDepth 20000 in
theorem wc_X10_mark : Cond.code yX10_mark cX10_mark 5 (some .boolean) ∈ lw_gd := lw_in 1140 (by decide +kernel) rfl
set_option maxRecDepth 20000 in
theorem wM_L_42 : Cond.methodLink "StateSharesLaw" 42 (yX10_thrown) ∈ lw_gd := lw_in 1133 (by decide +kernel) rfl
set_option maxRecDepth 20000 in
theorem wi_X10_thrown : Cond.instanceMethod (yX10_thrown) ∈ lw_gd := lw_in 1134 (by decide +kernel) rfl
set_option maxRecDepth 20000 in
theorem wS_X10_thrown : Cond.selects "StateSharesModel" (yX10_thrown) (yX10_thrown) ∈ lw_gd := lw_in 1135 (by decide +kernel) rfl
set_option maxRecDepth 20000 in
theorem wc_X10_thrown : Cond.code yX10_thrown cX10_thrown 1 (some .int) ∈ lw_gd := lw_in 1136 (by decide +kernel) rfl
set_option maxRecDepth 20000 in
theorem wM_L_46 : Cond.methodLink "StateSharesLaw" 46 (yX9_unit) ∈ lw_gd := lw_in 322 (by decide +kernel) rfl
set_option maxRecDepth 20000 in
theorem wi_X9_unit : Cond.instanceMethod (yX9_unit) ∈ lw_gd := lw_in 323 (by decide +kernel) rfl
set_option maxRecDepth 20000 in
theorem wS_X9_unit : Cond.selects "StateShares" (yX9_unit) (yX9_unit) ∈ lw_gd := lw_in 324 (by decide +kernel) rfl
set_option maxRecDepth 20000 in
theorem wc_X9_unit : Cond.code yX9_unit cX9_unit 2 (some .boolean) ∈ lw_gd := lw_in 325 (by decide +kernel) rfl
set_option maxRecDepth 20000 in
theorem wM_L_50 : Cond.methodLink "StateSharesLaw" 50 (yX10_unit) ∈ lw_gd := lw_in 1162 (by decide +kernel) rfl
set_option maxRecDepth 20000 in
theorem wi_X10_unit : Cond.instanceMethod (yX10_unit) ∈ lw_gd := lw_in 1163 (by decide +kernel) rfl
set_option maxRecDepth 20000 in
theorem wS_X10_unit : Cond.selects "StateSharesModel" (yX10_unit) (yX10_unit) ∈ lw_gd := lw_in 1164 (by decide +kernel) rfl
set_option maxRecDepth 20000 in
theorem wc_X10_unit : Cond.code yX10_unit cX10_unit 2 (some .boolean) ∈ lw_gd := lw_in 1165 (by decide +kernel) rfl
set_option maxRecDepth 20000 in
theorem wM_L_51 : Cond.methodLink "StateSharesLaw" 51 (yX9_grade) ∈ lw_gd := lw_in 330 (by decide +kernel) rfl
set_option maxRecDepth 20000 in
theorem wi_X9_grade : Cond.instanceMethod (yX9_grade) ∈ lw_gd := lw_in 331 (by decide +kernel) rfl
set_option maxRecDepth 20000 in
theorem wS_X9_grade : Cond.selects "StateShares" (yX9_grade) (yX9_grade) ∈ lw_gd := lw_in 332 (by decide +kernel) rfl
set_option maxRecDepth 20000 in
theorem wc_X9_grade : Cond.code yX9_grade cX9_grade 2 (some .int) ∈ lw_gd := lw_in 333 (by decide +kernel) rfl
set_option maxRecDepth 20000 in
theorem wM_L_54 : Cond.methodLink "StateSharesLaw" 54 (yX10_grade) ∈ lw_gd := lw_in 1168 (by decide +kernel) rfl
set_option maxRecDepth 20000 in
theorem wi_X10_grade : Cond.instanceMethod (yX10_grade) ∈ lw_gd := lw_in 1169 (by decide +kernel) rfl
set_option maxRecDepth 20000 in
theorem wS_X10_grade : Cond.selects "StateSharesModel" (yX10_grade) (yX10_grade) ∈ lw_gd := lw_in 1170 (by decide +kernel) rfl
set_option maxRecDepth 20000 in
theorem wc_X10_grade : Cond.code yX10_grade cX10_grade 3 (some .int) ∈ lw_gd := lw_in 1171 (by decide +kernel) rfl
set_option maxRecDepth 20000 in
theorem wM_L_55 : Cond.methodLink "StateSharesLaw" 55 (yX9_graded) ∈ lw_gd := lw_in 485 (by decide +kernel) rfl
set_option maxRecDepth 20000 in
theorem wi_X9_graded : Cond.instanceMethod (yX9_graded) ∈ lw_gd := lw_in 486 (by decide +kernel) rfl
set_option maxRecDepth 20000 in
theorem wS_X9_graded : Cond.selects "StateShares" (yX9_graded) (yX9_graded) ∈ lw_gd := lw_in 487 (by decide +kernel) rfl
set_option maxRecDepth 20000 in
theorem wc_X9_graded : Cond.code yX9_graded cX9_graded 3 (some .int) ∈ lw_gd := lw_in 488 (by decide +kernel) rfl
set_option maxRecDepth 20000 in
theorem wM_L_58 : Cond.methodLink "StateSharesLaw" 58 (yX10_graded) ∈ lw_gd := lw_in 1214 (by decide +kernel) rfl
set_option maxRecDepth 20000 in
theorem wi_X10_graded : Cond.instanceMethod (yX10_graded) ∈ lw_gd := lw_in 1215 (by decide +kernel) rfl
set_option maxRecDepth 20000 in
theorem wS_X10_graded : Cond.selects "StateSharesModel" (yX10_graded) (yX10_graded) ∈ lw_gd := lw_in 1216 (by decide +kernel) rfl
set_option maxRecDepth 20000 in
theorem wc_X10_graded : Cond.code yX10_graded cX10_graded 3 (some .int) ∈ lw_gd := lw_in 1217 (by decide +kernel) rfl
set_option maxRecDepth 20000 in
theorem wM_L_59 : Cond.methodLink "StateSharesLaw" 59 (yL_count) ∈ lw_gd := lw_in 988 (by decide +kernel) rfl
set_option maxRecDepth 20000 in
theorem ws_L_count : Cond.static (yL_count) ∈ lw_gd := lw_in 989 (by decide +kernel) rfl
set_option maxRecDepth 20000 in
theorem wM_L_62 : Cond.methodLink "StateSharesLaw" 62 (yX10_count) ∈ lw_gd := lw_in 1234 (by decide +kernel) rfl
set_option maxRecDepth 20000 in
theorem wi_X10_count : Cond.instanceMethod (yX10_count) ∈ lw_gd := lw_in 1235 (by decide +kernel) rfl
set_option maxRecDepth 20000 in
theorem wS_X10_count : Cond.selects "StateSharesModel" (yX10_count) (yX10_count) ∈ lw_gd := lw_in 1236 (by decide +kernel) rfl
set_option maxRecDepth 20000 in
theorem wc_X10_count : Cond.code yX10_count cX10_count 3 (some .int) ∈ lw_gd := lw_in 1237 (by decide +kernel) rfl
set_option maxRecDepth 20000 in
theorem wM_L_63 : Cond.methodLink "StateSharesLaw" 63 (yX9_least) ∈ lw_gd := lw_in 502 (by decide +kernel) rfl
set_option maxRecDepth 20000 in
theorem wi_X9_least : Cond.instanceMethod (yX9_least) ∈ lw_gd := lw_in 503 (by decide +kernel) rfl
set_option maxRecDepth 20000 in
theorem wS_X9_least : Cond.selects "StateShares" (yX9_least) (yX9_least) ∈ lw_gd := lw_in 504 (by decide +kernel) rfl
set_option maxRecDepth 20000 in
theorem wc_X9_least : Cond.code yX9_least cX9_least 2 (some .boolean) ∈ lw_gd := lw_in 505 (by decide +kernel) rfl
set_option maxRecDepth 20000 in
theorem wM_L_66 : Cond.methodLink "StateSharesLaw" 66 (yX10_least) ∈ lw_gd := lw_in 1246 (by decide +kernel) rfl
set_option maxRecDepth 20000 in
theorem wi_X10_least : Cond.instanceMethod (yX10_least) ∈ lw_gd := lw_in 1247 (by decide +kernel) rfl
set_option maxRecDepth 20000 in
theorem wS_X10_least : Cond.selects "StateSharesModel" (yX10_least) (yX10_least) ∈ lw_gd := lw_in 1248 (by decide +kernel) rfl
set_option maxRecDepth 20000 in
theorem wc_X10_least : Cond.code yX10_least cX10_least 2 (some .boolean) ∈ lw_gd := lw_in 1249 (by decide +kernel) rfl
set_option maxRecDepth 20000 in
theorem wM_L_67 : Cond.methodLink "StateSharesLaw" 67 (yL_share) ∈ lw_gd := lw_in 995 (by decide +kernel) rfl
set_option maxRecDepth 20000 in
theorem ws_L_share : Cond.static (yL_share) ∈ lw_gd := lw_in 996 (by decide +kernel) rfl
set_option maxRecDepth 20000 in
theorem wM_L_70 : Cond.methodLink "StateSharesLaw" 70 (yX10_share) ∈ lw_gd := lw_in 1251 (by decide +kernel) rfl
set_option maxRecDepth 20000 in
theorem wi_X10_share : Cond.instanceMethod (yX10_share) ∈ lw_gd := lw_in 1252 (by decide +kernel) rfl
set_option maxRecDepth 20000 in
theorem wS_X10_share : Cond.selects "StateSharesModel" (yX10_share) (yX10_share) ∈ lw_gd := lw_in 1253 (by decide +kernel) rfl
set_option maxRecDepth 20000 in
theorem wc_X10_share : Cond.code yX10_share cX10_share 10 (some .long) ∈ lw_gd := lw_in 1254 (by decide +kernel) rfl
set_option maxRecDepth 20000 in
theorem wM_L_71 : Cond.methodLink "StateSharesLaw" 71 (yL_at) ∈ lw_gd := lw_in 1004 (by decide +kernel) rfl
set_option maxRecDepth 20000 in
theorem ws_L_at : Cond.static (yL_at) ∈ lw_gd := lw_in 1005 (by decide +kernel) rfl
set_option maxRecDepth 20000 in
theorem wM_L_73 : Cond.methodLink "StateSharesLaw" 73 (yX10_at) ∈ lw_gd := lw_in 1283 (by decide +kernel) rfl
set_option maxRecDepth 20000 in
theorem wi_X10_at : Cond.instanceMethod (yX10_at) ∈ lw_gd := lw_in 1284 (by decide +kernel) rfl
set_option maxRecDepth 20000 in
theorem wS_X10_at : Cond.selects "StateSharesModel" (yX10_at) (yX10_at) ∈ lw_gd := lw_in 1285 (by decide +kernel) rfl
set_option maxRecDepth 20000 in
theorem wc_X10_at : Cond.code yX10_at cX10_at 4 (some .long) ∈ lw_gd := lw_in 1286 (by decide +kernel) rfl
set_option maxRecDepth 20000 in
theorem wL_L_74 : Cond.constantLong "StateSharesLaw" 74 (4294967295) ∈ lw_gd := lw_in 1419 (by decide +kernel) rfl
set_option maxRecDepth 20000 in
theorem wM_L_76 : Cond.methodLink "StateSharesLaw" 76 (yX9_start) ∈ lw_gd := lw_in 510 (by decide +kernel) rfl
set_option maxRecDepth 20000 in
theorem wi_X9_start : Cond.instanceMethod (yX9_start) ∈ lw_gd := lw_in 511 (by decide +kernel) rfl
set_option maxRecDepth 20000 in
theorem wS_X9_start : Cond.selects "StateShares" (yX9_start) (yX9_start) ∈ lw_gd := lw_in 512 (by decide +kernel) rfl
set_option maxRecDepth 20000 in
theorem wc_X9_start : Cond.code yX9_start cX9_start 6 (some .boolean) ∈ lw_gd := lw_in 513 (by decide +kernel) rfl
set_option maxRecDepth 20000 in
theorem wM_L_80 : Cond.methodLink "StateSharesLaw" 80 (yX10_start) ∈ lw_gd := lw_in 1359 (by decide +kernel) rfl
set_option maxRecDepth 20000 in
theorem wi_X10_start : Cond.instanceMethod (yX10_start) ∈ lw_gd := lw_in 1360 (by decide +kernel) rfl
set_option maxRecDepth 20000 in
theorem wS_X10_start : Cond.selects "StateSharesModel" (yX10_start) (yX10_start) ∈ lw_gd := lw_in 1361 (by decide +kernel) rfl
set_option maxRecDepth 20000 in
theorem wc_X10_start : Cond.code yX10_start cX10_start 6 (some .boolean) ∈ lw_gd := lw_in 1362 (by decide +kernel) rfl
set_option maxRecDepth 20000 in
theorem wM_L_81 : Cond.methodLink "StateSharesLaw" 81 (yX9_works) ∈ lw_gd := lw_in 531 (by decide +kernel) rfl
set_option maxRecDepth 20000 in
theorem wi_X9_works : Cond.instanceMethod (yX9_works) ∈ lw_gd := lw_in 532 (by decide +kernel) rfl
set_option maxRecDepth 20000 in
theorem wS_X9_works : Cond.selects "StateShares" (yX9_works) (yX9_works) ∈ lw_gd := lw_in 533 (by decide +kernel) rfl
set_option maxRecDepth 20000 in
theorem wc_X9_works : Cond.code yX9_works cX9_works 8 (some .boolean) ∈ lw_gd := lw_in 534 (by decide +kernel) rfl
set_option maxRecDepth 20000 in
theorem wM_L_85 : Cond.methodLink "StateSharesLaw" 85 (yX10_works) ∈ lw_gd := lw_in 1367 (by decide +kernel) rfl
set_option maxRecDepth 20000 in
theorem wi_X10_works : Cond.instanceMethod (yX10_works) ∈ lw_gd := lw_in 1368 (by decide +kernel) rfl
set_option maxRecDepth 20000 in
theorem wS_X10_works : Cond.selects "StateSharesModel" (yX10_works) (yX10_works) ∈ lw_gd := lw_in 1369 (by decide +kernel) rfl
set_option maxRecDepth 20000 in
theorem wc_X10_works : Cond.code yX10_works cX10_works 8 (some .boolean) ∈ lw_gd := lw_in 1370 (by decide +kernel) rfl
set_option maxRecDepth 20000 in
theorem wM_L_86 : Cond.methodLink "StateSharesLaw" 86 (yX9_event) ∈ lw_gd := lw_in 556 (by decide +kernel) rfl
set_option maxRecDepth 20000 in
theorem wi_X9_event : Cond.instanceMethod (yX9_event) ∈ lw_gd := lw_in 557 (by decide +kernel) rfl
set_option maxRecDepth 20000 in
theorem wS_X9_event : Cond.selects "StateShares" (yX9_event) (yX9_event) ∈ lw_gd := lw_in 558 (by decide +kernel) rfl
set_option maxRecDepth 20000 in
theorem wc_X9_event : Cond.code yX9_event cX9_event 8 (some .boolean) ∈ lw_gd := lw_in 559 (by decide +kernel) rfl
set_option maxRecDepth 20000 in
theorem wM_L_89 : Cond.methodLink "StateSharesLaw" 89 (yX10_event) ∈ lw_gd := lw_in 1376 (by decide +kernel) rfl
set_option maxRecDepth 20000 in
theorem wi_X10_event : Cond.instanceMethod (yX10_event) ∈ lw_gd := lw_in 1377 (by decide +kernel) rfl
set_option maxRecDepth 20000 in
theorem wS_X10_event : Cond.selects "StateSharesModel" (yX10_event) (yX10_event) ∈ lw_gd := lw_in 1378 (by decide +kernel) rfl
set_option maxRecDepth 20000 in
theorem wc_X10_event : Cond.code yX10_event cX10_event 8 (some .boolean) ∈ lw_gd := lw_in 1379 (by decide +kernel) rfl
set_option maxRecDepth 20000 in
theorem wM_L_90 : Cond.methodLink "StateSharesLaw" 90 (yX9_sums) ∈ lw_gd := lw_in 560 (by decide +kernel) rfl
set_option maxRecDepth 20000 in
theorem wi_X9_sums : Cond.instanceMethod (yX9_sums) ∈ lw_gd := lw_in 561 (by decide +kernel) rfl
set_option maxRecDepth 20000 in
theorem wS_X9_sums : Cond.selects "StateShares" (yX9_sums) (yX9_sums) ∈ lw_gd := lw_in 562 (by decide +kernel) rfl
set_option maxRecDepth 20000 in
theorem wc_X9_sums : Cond.code yX9_sums cX9_sums 2 (some .boolean) ∈ lw_gd := lw_in 563 (by decide +kernel) rfl
set_option maxRecDepth 20000 in
theorem wM_L_93 : Cond.methodLink "StateSharesLaw" 93 (yX10_sums) ∈ lw_gd := lw_in 1380 (by decide +kernel) rfl
set_option maxRecDepth 20000 in
theorem wi_X10_sums : Cond.instanceMethod (yX10_sums) ∈ lw_gd := lw_in 1381 (by decide +kernel) rfl
set_option maxRecDepth 20000 in
theorem wS_X10_sums : Cond.selects "StateSharesModel" (yX10_sums) (yX10_sums) ∈ lw_gd := lw_in 1382 (by decide +kernel) rfl
set_option maxRecDepth 20000 in
theorem wc_X10_sums : Cond.code yX10_sums cX10_sums 2 (some .boolean) ∈ lw_gd := lw_in 1383 (by decide +kernel) rfl
set_option maxRecDepth 20000 in
theorem wM_L_94 : Cond.methodLink "StateSharesLaw" 94 (yX9_drawn) ∈ lw_gd := lw_in 752 (by decide +kernel) rfl
set_option maxRecDepth 20000 in
theorem wi_X9_drawn : Cond.instanceMethod (yX9_drawn) ∈ lw_gd := lw_in 753 (by decide +kernel) rfl
set_option maxRecDepth 20000 in
theorem wS_X9_drawn : Cond.selects "StateShares" (yX9_drawn) (yX9_drawn) ∈ lw_gd := lw_in 754 (by decide +kernel) rfl
set_option maxRecDepth 20000 in
theorem wc_X9_drawn : Cond.code yX9_drawn cX9_drawn 7 (some .int) ∈ lw_gd := lw_in 755 (by decide +kernel) rfl
set_option maxRecDepth 20000 in
theorem wM_L_98 : Cond.methodLink "StateSharesLaw" 98 (yX10_drawn) ∈ lw_gd := lw_in 1402 (by decide +kernel) rfl
set_option maxRecDepth 20000 in
theorem wi_X10_drawn : Cond.instanceMethod (yX10_drawn) ∈ lw_gd := lw_in 1403 (by decide +kernel) rfl
set_option maxRecDepth 20000 in
theorem wS_X10_drawn : Cond.selects "StateSharesModel" (yX10_drawn) (yX10_drawn) ∈ lw_gd := lw_in 1404 (by decide +kernel) rfl
set_option maxRecDepth 20000 in
theorem wc_X10_drawn : Cond.code yX10_drawn cX10_drawn 14 (some .int) ∈ lw_gd := lw_in 1405 (by decide +kernel) rfl
set_option maxRecDepth 20000 in
theorem wM_L_99 : Cond.methodLink "StateSharesLaw" 99 (yX9_span) ∈ lw_gd := lw_in 774 (by decide +kernel) rfl
set_option maxRecDepth 20000 in
theorem wi_X9_span : Cond.instanceMethod (yX9_span) ∈ lw_gd := lw_in 775 (by decide +kernel) rfl
set_option maxRecDepth 20000 in
theorem wS_X9_span : Cond.selects "StateShares" (yX9_span) (yX9_span) ∈ lw_gd := lw_in 776 (by decide +kernel) rfl
set_option maxRecDepth 20000 in
theorem wc_X9_span : Cond.code yX9_span cX9_span 6 (some .long) ∈ lw_gd := lw_in 777 (by decide +kernel) rfl
set_option maxRecDepth 20000 in
theorem wM_L_103 : Cond.methodLink "StateSharesLaw" 103 (yX10_span) ∈ lw_gd := lw_in 1278 (by decide +kernel) rfl
set_option maxRecDepth 20000 in
theorem wi_X10_span : Cond.instanceMethod (yX10_span) ∈ lw_gd := lw_in 1279 (by decide +kernel) rfl
set_option maxRecDepth 20000 in
theorem wS_X10_span : Cond.selects "StateSharesModel" (yX10_span) (yX10_span) ∈ lw_gd := lw_in 1280 (by decide +kernel) rfl
set_option maxRecDepth 20000 in
theorem wc_X10_span : Cond.code yX10_span cX10_span 9 (some .long) ∈ lw_gd := lw_in 1281 (by decide +kernel) rfl
set_option maxRecDepth 20000 in
theorem wM_L_104 : Cond.methodLink "StateSharesLaw" 104 (yX9_part2) ∈ lw_gd := lw_in 788 (by decide +kernel) rfl
set_option maxRecDepth 20000 in
theorem wi_X9_part2 : Cond.instanceMethod (yX9_part2) ∈ lw_gd := lw_in 789 (by decide +kernel) rfl
set_option maxRecDepth 20000 in
theorem wS_X9_part2 : Cond.selects "StateShares" (yX9_part2) (yX9_part2) ∈ lw_gd := lw_in 790 (by decide +kernel) rfl
set_option maxRecDepth 20000 in
theorem wc_X9_part2 : Cond.code yX9_part2 cX9_part2 4 (some .boolean) ∈ lw_gd := lw_in 791 (by decide +kernel) rfl
set_option maxRecDepth 20000 in
theorem wM_L_108 : Cond.methodLink "StateSharesLaw" 108 (yX10_part2) ∈ lw_gd := lw_in 1392 (by decide +kernel) rfl
set_option maxRecDepth 20000 in
theorem wi_X10_part2 : Cond.instanceMethod (yX10_part2) ∈ lw_gd := lw_in 1393 (by decide +kernel) rfl
set_option maxRecDepth 20000 in
theorem wS_X10_part2 : Cond.selects "StateSharesModel" (yX10_part2) (yX10_part2) ∈ lw_gd := lw_in 1394 (by decide +kernel) rfl
set_option maxRecDepth 20000 in
theorem wc_X10_part2 : Cond.code yX10_part2 cX10_part2 4 (some .boolean) ∈ lw_gd := lw_in 1395 (by decide +kernel) rfl
set_option maxRecDepth 20000 in
theorem wM_L_109 : Cond.methodLink "StateSharesLaw" 109 (yX9_worth) ∈ lw_gd := lw_in 798 (by decide +kernel) rfl
set_option maxRecDepth 20000 in
theorem wi_X9_worth : Cond.instanceMethod (yX9_worth) ∈ lw_gd := lw_in 799 (by decide +kernel) rfl
set_option maxRecDepth 20000 in
theorem wS_X9_worth : Cond.selects "StateShares" (yX9_worth) (yX9_worth) ∈ lw_gd := lw_in 800 (by decide +kernel) rfl
set_option maxRecDepth 20000 in
theorem wc_X9_worth : Cond.code yX9_worth cX9_worth 3 (some .long) ∈ lw_gd := lw_in 801 (by decide +kernel) rfl
set_option maxRecDepth 20000 in
theorem wM_L_113 : Cond.methodLink "StateSharesLaw" 113 (yX10_worth) ∈ lw_gd := lw_in 1398 (by decide +kernel) rfl
set_option maxRecDepth 20000 in
theorem wi_X10_worth : Cond.instanceMethod (yX10_worth) ∈ lw_gd := lw_in 1399 (by decide +kernel) rfl
set_option maxRecDepth 20000 in
theorem wS_X10_worth : Cond.selects "StateSharesModel" (yX10_worth) (yX10_worth) ∈ lw_gd := lw_in 1400 (by decide +kernel) rfl
set_option maxRecDepth 20000 in
theorem wc_X10_worth : Cond.code yX10_worth cX10_worth 6 (some .long) ∈ lw_gd := lw_in 1401 (by decide +kernel) rfl
set_option maxRecDepth 20000 in
theorem wM_L_114 : Cond.methodLink "StateSharesLaw" 114 (yX9_agree) ∈ lw_gd := lw_in 831 (by decide +kernel) rfl
set_option maxRecDepth 20000 in
theorem wi_X9_agree : Cond.instanceMethod (yX9_agree) ∈ lw_gd := lw_in 832 (by decide +kernel) rfl
set_option maxRecDepth 20000 in
theorem wS_X9_agree : Cond.selects "StateShares" (yX9_agree) (yX9_agree) ∈ lw_gd := lw_in 833 (by decide +kernel) rfl
set_option maxRecDepth 20000 in
theorem wc_X9_agree : Cond.code yX9_agree cX9_agree 8 (some .long) ∈ lw_gd := lw_in 834 (by decide +kernel) rfl
set_option maxRecDepth 20000 in
theorem wM_L_117 : Cond.methodLink "StateSharesLaw" 117 (yX10_agree) ∈ lw_gd := lw_in 1415 (by decide +kernel) rfl
set_option maxRecDepth 20000 in
theorem wi_X10_agree : Cond.instanceMethod (yX10_agree) ∈ lw_gd := lw_in 1416 (by decide +kernel) rfl
set_option maxRecDepth 20000 in
theorem wS_X10_agree : Cond.selects "StateSharesModel" (yX10_agree) (yX10_agree) ∈ lw_gd := lw_in 1417 (by decide +kernel) rfl
set_option maxRecDepth 20000 in
theorem wc_X10_agree : Cond.code yX10_agree cX10_agree 17 (some .long) ∈ lw_gd := lw_in 1418 (by decide +kernel) rfl
set_option maxRecDepth 20000 in
theorem wM_L_118 : Cond.methodLink "StateSharesLaw" 118 (yX9_joined) ∈ lw_gd := lw_in 854 (by decide +kernel) rfl
set_option maxRecDepth 20000 in
theorem wi_X9_joined : Cond.instanceMethod (yX9_joined) ∈ lw_gd := lw_in 855 (by decide +kernel) rfl
set_option maxRecDepth 20000 in
theorem wS_X9_joined : Cond.selects "StateShares" (yX9_joined) (yX9_joined) ∈ lw_gd := lw_in 856 (by decide +kernel) rfl
set_option maxRecDepth 20000 in
theorem wc_X9_joined : Cond.code yX9_joined cX9_joined 3 (some .int) ∈ lw_gd := lw_in 857 (by decide +kernel) rfl
set_option maxRecDepth 20000 in
theorem wM_L_121 : Cond.methodLink "StateSharesLaw" 121 (yX10_joined) ∈ lw_gd := lw_in 1274 (by decide +kernel) rfl
set_option maxRecDepth 20000 in
theorem wi_X10_joined : Cond.instanceMethod (yX10_joined) ∈ lw_gd := lw_in 1275 (by decide +kernel) rfl
set_option maxRecDepth 20000 in
theorem wS_X10_joined : Cond.selects "StateSharesModel" (yX10_joined) (yX10_joined) ∈ lw_gd := lw_in 1276 (by decide +kernel) rfl
set_option maxRecDepth 20000 in
theorem wc_X10_joined : Cond.code yX10_joined cX10_joined 3 (some .int) ∈ lw_gd := lw_in 1277 (by decide +kernel) rfl
set_option maxRecDepth 20000 in
theorem wM_L_122 : Cond.methodLink "StateSharesLaw" 122 (yX9_target) ∈ lw_gd := lw_in 862 (by decide +kernel) rfl
set_option maxRecDepth 20000 in
theorem wi_X9_target : Cond.instanceMethod (yX9_target) ∈ lw_gd := lw_in 863 (by decide +kernel) rfl
set_option maxRecDepth 20000 in
theorem wS_X9_target : Cond.selects "StateShares" (yX9_target) (yX9_target) ∈ lw_gd := lw_in 864 (by decide +kernel) rfl
set_option maxRecDepth 20000 in
theorem wc_X9_target : Cond.code yX9_target cX9_target 7 (some .int) ∈ lw_gd := lw_in 865 (by decide +kernel) rfl
set_option maxRecDepth 20000 in
theorem wM_L_126 : Cond.methodLink "StateSharesLaw" 126 (yX10_target) ∈ lw_gd := lw_in 1388 (by decide +kernel) rfl
set_option maxRecDepth 20000 in
theorem wi_X10_target : Cond.instanceMethod (yX10_target) ∈ lw_gd := lw_in 1389 (by decide +kernel) rfl
set_option maxRecDepth 20000 in
theorem wS_X10_target : Cond.selects "StateSharesModel" (yX10_target) (yX10_target) ∈ lw_gd := lw_in 1390 (by decide +kernel) rfl
set_option maxRecDepth 20000 in
theorem wc_X10_target : Cond.code yX10_target cX10_target 7 (some .int) ∈ lw_gd := lw_in 1391 (by decide +kernel) rfl
set_option maxRecDepth 20000 in
theorem wM_L_127 : Cond.methodLink "StateSharesLaw" 127 (yX9_missing) ∈ lw_gd := lw_in 875 (by decide +kernel) rfl
set_option maxRecDepth 20000 in
theorem wi_X9_missing : Cond.instanceMethod (yX9_missing) ∈ lw_gd := lw_in 876 (by decide +kernel) rfl
set_option maxRecDepth 20000 in
theorem wS_X9_missing : Cond.selects "StateShares" (yX9_missing) (yX9_missing) ∈ lw_gd := lw_in 877 (by decide +kernel) rfl
set_option maxRecDepth 20000 in
theorem wc_X9_missing : Cond.code yX9_missing cX9_missing 2 (some .int) ∈ lw_gd := lw_in 878 (by decide +kernel) rfl
set_option maxRecDepth 20000 in
theorem wM_L_131 : Cond.methodLink "StateSharesLaw" 131 (yX10_missing) ∈ lw_gd := lw_in 1230 (by decide +kernel) rfl
set_option maxRecDepth 20000 in
theorem wi_X10_missing : Cond.instanceMethod (yX10_missing) ∈ lw_gd := lw_in 1231 (by decide +kernel) rfl
set_option maxRecDepth 20000 in
theorem wS_X10_missing : Cond.selects "StateSharesModel" (yX10_missing) (yX10_missing) ∈ lw_gd := lw_in 1232 (by decide +kernel) rfl
set_option maxRecDepth 20000 in
theorem wc_X10_missing : Cond.code yX10_missing cX10_missing 9 (some .int) ∈ lw_gd := lw_in 1233 (by decide +kernel) rfl
set_option maxRecDepth 20000 in
theorem wM_L_132 : Cond.methodLink "StateSharesLaw" 132 (yX9_kind) ∈ lw_gd := lw_in 887 (by decide +kernel) rfl
set_option maxRecDepth 20000 in
theorem wi_X9_kind : Cond.instanceMethod (yX9_kind) ∈ lw_gd := lw_in 888 (by decide +kernel) rfl
set_option maxRecDepth 20000 in
theorem wS_X9_kind : Cond.selects "StateShares" (yX9_kind) (yX9_kind) ∈ lw_gd := lw_in 889 (by decide +kernel) rfl
set_option maxRecDepth 20000 in
theorem wc_X9_kind : Cond.code yX9_kind cX9_kind 3 (some .boolean) ∈ lw_gd := lw_in 890 (by decide +kernel) rfl
set_option maxRecDepth 20000 in
theorem wM_L_136 : Cond.methodLink "StateSharesLaw" 136 (yX10_kind) ∈ lw_gd := lw_in 1158 (by decide +kernel) rfl
set_option maxRecDepth 20000 in
theorem wi_X10_kind : Cond.instanceMethod (yX10_kind) ∈ lw_gd := lw_in 1159 (by decide +kernel) rfl
set_option maxRecDepth 20000 in
theorem wS_X10_kind : Cond.selects "StateSharesModel" (yX10_kind) (yX10_kind) ∈ lw_gd := lw_in 1160 (by decide +kernel) rfl
set_option maxRecDepth 20000 in
theorem wc_X10_kind : Cond.code yX10_kind cX10_kind 3 (some .boolean) ∈ lw_gd := lw_in 1161 (by decide +kernel) rfl
set_option maxRecDepth 20000 in
theorem wW_mark : xcodeW M_L_mark [(0, 21, 24, 13)] ∈ lw_gd := by decide +kernel
set_option maxRecDepth 20000 in
theorem wW_count : xcodeW M_L_count [(0, 10, 13, 13)] ∈ lw_gd := by decide +kernel
set_option maxRecDepth 20000 in
theorem wW_share : xcodeW M_L_share [(0, 11, 14, 13)] ∈ lw_gd := by decide +kernel
set_option maxRecDepth 20000 in
theorem wW_at : xcodeW M_L_at [(0, 11, 14, 13)] ∈ lw_gd := by decide +kernel
theorem dL_law_33 : decode cL_law 33 = .ok (.iload 4, 2) := by decide +kernel
theorem dL_law_35 : decode cL_law 35 = .ok (.aload_n 0, 1) := by decide +kernel
theorem dL_law_36 : decode cL_law 36 = .ok (.arraylength, 1) := by decide +kernel
theorem dL_law_37 : decode cL_law 37 = .ok (.bipush 8, 2) := by decide +kernel
theorem dL_law_39 : decode cL_law 39 = .ok (.isub, 1) := by decide +kernel
theorem dL_law_40 : decode cL_law 40 = .ok (.if_icmp .gt 1471, 3) := by decide +kernel
theorem dL_law_43 : decode cL_law 43 = .ok (.aload_n 0, 1) := by decide +kernel
theorem dL_law_44 : decode cL_law 44 = .ok (.iload 4, 2) := by decide +kernel
theorem dL_law_46 : decode cL_law 46 = .ok (.iaload, 1) := by decide +kernel
theorem dL_law_47 : decode cL_law 47 = .ok (.bipush 31, 2) := by decide +kernel
theorem dL_law_49 : decode cL_law 49 = .ok (.iand, 1) := by decide +kernel
theorem dL_law_50 : decode cL_law 50 = .ok (.tableswitch 1455 0 20 #[98, 197, 222, 235, 272, 340, 365, 444, 523, 636, 777, 918, 943, 1024, 1086, 1155, 1193, 1243, 1280, 1393, 1418], 98) := by decide +kernel
theorem dL_law_148 : decode cL_law 148 = .ok (.aload_n 1, 1) := by decide +kernel
theorem dL_law_149 : decode cL_law 149 = .ok (.aload_n 0, 1) := by decide +kernel
theorem dL_law_150 : decode cL_law 150 = .ok (.iload 4, 2) := by decide +kernel
theorem dL_law_152 : decode cL_law 152 = .ok (.iconst 1, 1) := by decide +kernel
theorem dL_law_153 : decode cL_law 153 = .ok (.iadd, 1) := by decide +kernel
theorem dL_law_154 : decode cL_law 154 = .ok (.iaload, 1) := by decide +kernel
theorem dL_law_155 : decode cL_law 155 = .ok (.aload_n 0, 1) := by decide +kernel
theorem dL_law_156 : decode cL_law 156 = .ok (.iload 4, 2) := by decide +kernel
theorem dL_law_158 : decode cL_law 158 = .ok (.iconst 2, 1) := by decide +kernel
theorem dL_law_159 : decode cL_law 159 = .ok (.iadd, 1) := by decide +kernel
theorem dL_law_160 : decode cL_law 160 = .ok (.iaload, 1) := by decide +kernel
theorem dL_law_161 : decode cL_law 161 = .ok (.aload_n 0, 1) := by decide +kernel
theorem dL_law_162 : decode cL_law 162 = .ok (.iload 4, 2) := by decide +kernel
theorem dL_law_164 : decode cL_law 164 = .ok (.iconst 3, 1) := by decide +kernel
theorem dL_law_165 : decode cL_law 165 = .ok (.iadd, 1) := by decide +kernel
theorem dL_law_166 : decode cL_law 166 = .ok (.iaload, 1) := by decide +kernel
theorem dL_law_167 : decode cL_law 167 = .ok (.aload_n 0, 1) := by decide +kernel
theorem dL_law_168 : decode cL_law 168 = .ok (.iload 4, 2) := by decide +kernel
theorem dL_law_170 : decode cL_law 170 = .ok (.iconst 4, 1) := by decide +kernel
theorem dL_law_171 : decode cL_law 171 = .ok (.iadd, 1) := by decide +kernel
theorem dL_law_172 : decode cL_law 172 = .ok (.iaload, 1) := by decide +kernel
theorem dL_law_173 : decode cL_law 173 = .ok (.aload_n 3, 1) := by decide +kernel
theorem dL_law_174 : decode cL_law 174 = .ok (.invokestatic 38, 3) := by decide +kernel
theorem dL_law_177 : decode cL_law 177 = .ok (.istore 5, 2) := by decide +kernel
theorem dL_law_179 : decode cL_law 179 = .ok (.aload_n 2, 1) := by decide +kernel
theorem dL_law_180 : decode cL_law 180 = .ok (.aload_n 0, 1) := by decide +kernel
theorem dL_law_181 : decode cL_law 181 = .ok (.iload 4, 2) := by decide +kernel
theorem dL_law_183 : decode cL_law 183 = .ok (.iconst 1, 1) := by decide +kernel
theorem dL_law_184 : decode cL_law 184 = .ok (.iadd, 1) := by decide +kernel
theorem dL_law_185 : decode cL_law 185 = .ok (.iaload, 1) := by decide +kernel
theorem dL_law_186 : decode cL_law 186 = .ok (.aload_n 0, 1) := by decide +kernel
theorem dL_law_187 : decode cL_law 187 = .ok (.iload 4, 2) := by decide +kernel
theorem dL_law_189 : decode cL_law 189 = .ok (.iconst 2, 1) := by decide +kernel
theorem dL_law_190 : decode cL_law 190 = .ok (.iadd, 1) := by decide +kernel
theorem dL_law_191 : decode cL_law 191 = .ok (.iaload, 1) := by decide +kernel
theorem dL_law_192 : decode cL_law 192 = .ok (.aload_n 0, 1) := by decide +kernel
theorem dL_law_193 : decode cL_law 193 = .ok (.iload 4, 2) := by decide +kernel
theorem dL_law_195 : decode cL_law 195 = .ok (.iconst 3, 1) := by decide +kernel
theorem dL_law_196 : decode cL_law 196 = .ok (.iadd, 1) := by decide +kernel
theorem dL_law_197 : decode cL_law 197 = .ok (.iaload, 1) := by decide +kernel
theorem dL_law_198 : decode cL_law 198 = .ok (.aload_n 0, 1) := by decide +kernel
theorem dL_law_199 : decode cL_law 199 = .ok (.iload 4, 2) := by decide +kernel
theorem dL_law_201 : decode cL_law 201 = .ok (.iconst 4, 1) := by decide +kernel
theorem dL_law_202 : decode cL_law 202 = .ok (.iadd, 1) := by decide +kernel
theorem dL_law_203 : decode cL_law 203 = .ok (.iaload, 1) := by decide +kernel
theorem dL_law_204 : decode cL_law 204 = .ok (.invokevirtual 41, 3) := by decide +kernel
theorem dL_law_207 : decode cL_law 207 = .ok (.istore 6, 2) := by decide +kernel
theorem dL_law_209 : decode cL_law 209 = .ok (.aload_n 2, 1) := by decide +kernel
theorem dL_law_210 : decode cL_law 210 = .ok (.invokevirtual 42, 3) := by decide +kernel
theorem dL_law_213 : decode cL_law 213 = .ok (.iload 5, 2) := by decide +kernel
theorem dL_law_215 : decode cL_law 215 = .ok (.if_icmp .eq 5, 3) := by decide +kernel
theorem dL_law_220 : decode cL_law 220 = .ok (.iload 5, 2) := by decide +kernel
theorem dL_law_222 : decode cL_law 222 = .ok (.ifCond .ne 22, 3) := by decide +kernel
theorem dL_law_225 : decode cL_law 225 = .ok (.aload_n 3, 1) := by decide +kernel
theorem dL_law_226 : decode cL_law 226 = .ok (.iconst 0, 1) := by decide +kernel
theorem dL_law_227 : decode cL_law 227 = .ok (.laload, 1) := by decide +kernel
theorem dL_law_228 : decode cL_law 228 = .ok (.iload 6, 2) := by decide +kernel
theorem dL_law_230 : decode cL_law 230 = .ok (.ifCond .eq 7, 3) := by decide +kernel
theorem dL_law_233 : decode cL_law 233 = .ok (.lconst 1, 1) := by decide +kernel
theorem dL_law_234 : decode cL_law 234 = .ok (.goto 4, 3) := by decide +kernel
theorem dL_law_237 : decode cL_law 237 = .ok (.lconst 0, 1) := by decide +kernel
theorem dL_law_238 : decode cL_law 238 = .ok (.lcmp, 1) := by decide +kernel
theorem dL_law_239 : decode cL_law 239 = .ok (.ifCond .eq 5, 3) := by decide +kernel
theorem dL_law_244 : decode cL_law 244 = .ok (.goto 1261, 3) := by decide +kernel
theorem dL_law_247 : decode cL_law 247 = .ok (.aload_n 1, 1) := by decide +kernel
theorem dL_law_248 : decode cL_law 248 = .ok (.aload_n 0, 1) := by decide +kernel
theorem dL_law_249 : decode cL_law 249 = .ok (.iload 4, 2) := by decide +kernel
theorem dL_law_251 : decode cL_law 251 = .ok (.iconst 1, 1) := by decide +kernel
theorem dL_law_252 : decode cL_law 252 = .ok (.iadd, 1) := by decide +kernel
theorem dL_law_253 : decode cL_law 253 = .ok (.iaload, 1) := by decide +kernel
theorem dL_law_254 : decode cL_law 254 = .ok (.invokevirtual 46, 3) := by decide +kernel
theorem dL_law_257 : decode cL_law 257 = .ok (.aload_n 2, 1) := by decide +kernel
theorem dL_law_258 : decode cL_law 258 = .ok (.aload_n 0, 1) := by decide +kernel
theorem dL_law_259 : decode cL_law 259 = .ok (.iload 4, 2) := by decide +kernel
theorem dL_law_261 : decode cL_law 261 = .ok (.iconst 1, 1) := by decide +kernel
theorem dL_law_262 : decode cL_law 262 = .ok (.iadd, 1) := by decide +kernel
theorem dL_law_263 : decode cL_law 263 = .ok (.iaload, 1) := by decide +kernel
theorem dL_law_264 : decode cL_law 264 = .ok (.invokevirtual 50, 3) := by decide +kernel
theorem dL_law_267 : decode cL_law 267 = .ok (.if_icmp .eq 1238, 3) := by decide +kernel
theorem dL_law_272 : decode cL_law 272 = .ok (.aload_n 1, 1) := by decide +kernel
theorem dL_law_273 : decode cL_law 273 = .ok (.invokevirtual 51, 3) := by decide +kernel
theorem dL_law_276 : decode cL_law 276 = .ok (.aload_n 2, 1) := by decide +kernel
theorem dL_law_277 : decode cL_law 277 = .ok (.invokevirtual 54, 3) := by decide +kernel
theorem dL_law_280 : decode cL_law 280 = .ok (.if_icmp .eq 1225, 3) := by decide +kernel
theorem dL_law_285 : decode cL_law 285 = .ok (.aload_n 1, 1) := by decide +kernel
theorem dL_law_286 : decode cL_law 286 = .ok (.aload_n 0, 1) := by decide +kernel
theorem dL_law_287 : decode cL_law 287 = .ok (.iload 4, 2) := by decide +kernel
theorem dL_law_289 : decode cL_law 289 = .ok (.iconst 1, 1) := by decide +kernel
theorem dL_law_290 : decode cL_law 290 = .ok (.iadd, 1) := by decide +kernel
theorem dL_law_291 : decode cL_law 291 = .ok (.iaload, 1) := by decide +kernel
theorem dL_law_292 : decode cL_law 292 = .ok (.aload_n 0, 1) := by decide +kernel
theorem dL_law_293 : decode cL_law 293 = .ok (.iload 4, 2) := by decide +kernel
theorem dL_law_295 : decode cL_law 295 = .ok (.iconst 2, 1) := by decide +kernel
theorem dL_law_296 : decode cL_law 296 = .ok (.iadd, 1) := by decide +kernel
theorem dL_law_297 : decode cL_law 297 = .ok (.iaload, 1) := by decide +kernel
theorem dL_law_298 : decode cL_law 298 = .ok (.invokevirtual 55, 3) := by decide +kernel
theorem dL_law_301 : decode cL_law 301 = .ok (.aload_n 2, 1) := by decide +kernel
theorem dL_law_302 : decode cL_law 302 = .ok (.aload_n 0, 1) := by decide +kernel
theorem dL_law_303 : decode cL_law 303 = .ok (.iload 4, 2) := by decide +kernel
theorem dL_law_305 : decode cL_law 305 = .ok (.iconst 1, 1) := by decide +kernel
theorem dL_law_306 : decode cL_law 306 = .ok (.iadd, 1) := by decide +kernel
theorem dL_law_307 : decode cL_law 307 = .ok (.iaload, 1) := by decide +kernel
theorem dL_law_308 : decode cL_law 308 = .ok (.aload_n 0, 1) := by decide +kernel
theorem dL_law_309 : decode cL_law 309 = .ok (.iload 4, 2) := by decide +kernel
theorem dL_law_311 : decode cL_law 311 = .ok (.iconst 2, 1) := by decide +kernel
theorem dL_law_312 : decode cL_law 312 = .ok (.iadd, 1) := by decide +kernel
theorem dL_law_313 : decode cL_law 313 = .ok (.iaload, 1) := by decide +kernel
theorem dL_law_314 : decode cL_law 314 = .ok (.invokevirtual 58, 3) := by decide +kernel
theorem dL_law_317 : decode cL_law 317 = .ok (.if_icmp .eq 1188, 3) := by decide +kernel
theorem dL_law_322 : decode cL_law 322 = .ok (.aload_n 1, 1) := by decide +kernel
theorem dL_law_323 : decode cL_law 323 = .ok (.aload_n 0, 1) := by decide +kernel
theorem dL_law_324 : decode cL_law 324 = .ok (.iload 4, 2) := by decide +kernel
theorem dL_law_326 : decode cL_law 326 = .ok (.iconst 1, 1) := by decide +kernel
theorem dL_law_327 : decode cL_law 327 = .ok (.iadd, 1) := by decide +kernel
theorem dL_law_328 : decode cL_law 328 = .ok (.iaload, 1) := by decide +kernel
theorem dL_law_329 : decode cL_law 329 = .ok (.aload_n 0, 1) := by decide +kernel
theorem dL_law_330 : decode cL_law 330 = .ok (.iload 4, 2) := by decide +kernel
theorem dL_law_332 : decode cL_law 332 = .ok (.iconst 2, 1) := by decide +kernel
theorem dL_law_333 : decode cL_law 333 = .ok (.iadd, 1) := by decide +kernel
theorem dL_law_334 : decode cL_law 334 = .ok (.iaload, 1) := by decide +kernel
theorem dL_law_335 : decode cL_law 335 = .ok (.aload_n 3, 1) := by decide +kernel
theorem dL_law_336 : decode cL_law 336 = .ok (.invokestatic 59, 3) := by decide +kernel
theorem dL_law_339 : decode cL_law 339 = .ok (.istore 5, 2) := by decide +kernel
theorem dL_law_341 : decode cL_law 341 = .ok (.aload_n 2, 1) := by decide +kernel
theorem dL_law_342 : decode cL_law 342 = .ok (.aload_n 0, 1) := by decide +kernel
theorem dL_law_343 : decode cL_law 343 = .ok (.iload 4, 2) := by decide +kernel
theorem dL_law_345 : decode cL_law 345 = .ok (.iconst 1, 1) := by decide +kernel
theorem dL_law_346 : decode cL_law 346 = .ok (.iadd, 1) := by decide +kernel
theorem dL_law_347 : decode cL_law 347 = .ok (.iaload, 1) := by decide +kernel
theorem dL_law_348 : decode cL_law 348 = .ok (.aload_n 0, 1) := by decide +kernel
theorem dL_law_349 : decode cL_law 349 = .ok (.iload 4, 2) := by decide +kernel
theorem dL_law_351 : decode cL_law 351 = .ok (.iconst 2, 1) := by decide +kernel
theorem dL_law_352 : decode cL_law 352 = .ok (.iadd, 1) := by decide +kernel
theorem dL_law_353 : decode cL_law 353 = .ok (.iaload, 1) := by decide +kernel
theorem dL_law_354 : decode cL_law 354 = .ok (.invokevirtual 62, 3) := by decide +kernel
theorem dL_law_357 : decode cL_law 357 = .ok (.istore 6, 2) := by decide +kernel
theorem dL_law_359 : decode cL_law 359 = .ok (.aload_n 2, 1) := by decide +kernel
theorem dL_law_360 : decode cL_law 360 = .ok (.invokevirtual 42, 3) := by decide +kernel
theorem dL_law_363 : decode cL_law 363 = .ok (.iload 5, 2) := by decide +kernel
theorem dL_law_365 : decode cL_law 365 = .ok (.if_icmp .eq 5, 3) := by decide +kernel
theorem dL_law_370 : decode cL_law 370 = .ok (.iload 5, 2) := by decide +kernel
theorem dL_law_372 : decode cL_law 372 = .ok (.ifCond .ne 15, 3) := by decide +kernel
theorem dL_law_375 : decode cL_law 375 = .ok (.aload_n 3, 1) := by decide +kernel
theorem dL_law_376 : decode cL_law 376 = .ok (.iconst 0, 1) := by decide +kernel
theorem dL_law_377 : decode cL_law 377 = .ok (.laload, 1) := by decide +kernel
theorem dL_law_378 : decode cL_law 378 = .ok (.iload 6, 2) := by decide +kernel
theorem dL_law_380 : decode cL_law 380 = .ok (.i2l, 1) := by decide +kernel
theorem dL_law_381 : decode cL_law 381 = .ok (.lcmp, 1) := by decide +kernel
theorem dL_law_382 : decode cL_law 382 = .ok (.ifCond .eq 5, 3) := by decide +kernel
theorem dL_law_387 : decode cL_law 387 = .ok (.goto 1118, 3) := by decide +kernel
theorem dL_law_390 : decode cL_law 390 = .ok (.aload_n 1, 1) := by decide +kernel
theorem dL_law_391 : decode cL_law 391 = .ok (.aload_n 0, 1) := by decide +kernel
theorem dL_law_392 : decode cL_law 392 = .ok (.iload 4, 2) := by decide +kernel
theorem dL_law_394 : decode cL_law 394 = .ok (.iconst 1, 1) := by decide +kernel
theorem dL_law_395 : decode cL_law 395 = .ok (.iadd, 1) := by decide +kernel
theorem dL_law_396 : decode cL_law 396 = .ok (.iaload, 1) := by decide +kernel
theorem dL_law_397 : decode cL_law 397 = .ok (.invokevirtual 63, 3) := by decide +kernel
theorem dL_law_400 : decode cL_law 400 = .ok (.aload_n 2, 1) := by decide +kernel
theorem dL_law_401 : decode cL_law 401 = .ok (.aload_n 0, 1) := by decide +kernel
theorem dL_law_402 : decode cL_law 402 = .ok (.iload 4, 2) := by decide +kernel
theorem dL_law_404 : decode cL_law 404 = .ok (.iconst 1, 1) := by decide +kernel
theorem dL_law_405 : decode cL_law 405 = .ok (.iadd, 1) := by decide +kernel
theorem dL_law_406 : decode cL_law 406 = .ok (.iaload, 1) := by decide +kernel
theorem dL_law_407 : decode cL_law 407 = .ok (.invokevirtual 66, 3) := by decide +kernel
theorem dL_law_410 : decode cL_law 410 = .ok (.if_icmp .eq 1095, 3) := by decide +kernel
theorem dL_law_415 : decode cL_law 415 = .ok (.aload_n 1, 1) := by decide +kernel
theorem dL_law_416 : decode cL_law 416 = .ok (.aload_n 0, 1) := by decide +kernel
theorem dL_law_417 : decode cL_law 417 = .ok (.iload 4, 2) := by decide +kernel
theorem dL_law_419 : decode cL_law 419 = .ok (.iconst 1, 1) := by decide +kernel
theorem dL_law_420 : decode cL_law 420 = .ok (.iadd, 1) := by decide +kernel
theorem dL_law_421 : decode cL_law 421 = .ok (.iaload, 1) := by decide +kernel
theorem dL_law_422 : decode cL_law 422 = .ok (.aload_n 0, 1) := by decide +kernel
theorem dL_law_423 : decode cL_law 423 = .ok (.iload 4, 2) := by decide +kernel
theorem dL_law_425 : decode cL_law 425 = .ok (.iconst 2, 1) := by decide +kernel
theorem dL_law_426 : decode cL_law 426 = .ok (.iadd, 1) := by decide +kernel
theorem dL_law_427 : decode cL_law 427 = .ok (.iaload, 1) := by decide +kernel
theorem dL_law_428 : decode cL_law 428 = .ok (.aload_n 0, 1) := by decide +kernel
theorem dL_law_429 : decode cL_law 429 = .ok (.iload 4, 2) := by decide +kernel
theorem dL_law_431 : decode cL_law 431 = .ok (.iconst 3, 1) := by decide +kernel
theorem dL_law_432 : decode cL_law 432 = .ok (.iadd, 1) := by decide +kernel
theorem dL_law_433 : decode cL_law 433 = .ok (.iaload, 1) := by decide +kernel
theorem dL_law_434 : decode cL_law 434 = .ok (.aload_n 3, 1) := by decide +kernel
theorem dL_law_435 : decode cL_law 435 = .ok (.invokestatic 67, 3) := by decide +kernel
theorem dL_law_438 : decode cL_law 438 = .ok (.istore 5, 2) := by decide +kernel
theorem dL_law_440 : decode cL_law 440 = .ok (.aload_n 2, 1) := by decide +kernel
theorem dL_law_441 : decode cL_law 441 = .ok (.aload_n 0, 1) := by decide +kernel
theorem dL_law_442 : decode cL_law 442 = .ok (.iload 4, 2) := by decide +kernel
theorem dL_law_444 : decode cL_law 444 = .ok (.iconst 1, 1) := by decide +kernel
theorem dL_law_445 : decode cL_law 445 = .ok (.iadd, 1) := by decide +kernel
theorem dL_law_446 : decode cL_law 446 = .ok (.iaload, 1) := by decide +kernel
theorem dL_law_447 : decode cL_law 447 = .ok (.aload_n 0, 1) := by decide +kernel
theorem dL_law_448 : decode cL_law 448 = .ok (.iload 4, 2) := by decide +kernel
theorem dL_law_450 : decode cL_law 450 = .ok (.iconst 2, 1) := by decide +kernel
theorem dL_law_451 : decode cL_law 451 = .ok (.iadd, 1) := by decide +kernel
theorem dL_law_452 : decode cL_law 452 = .ok (.iaload, 1) := by decide +kernel
theorem dL_law_453 : decode cL_law 453 = .ok (.aload_n 0, 1) := by decide +kernel
theorem dL_law_454 : decode cL_law 454 = .ok (.iload 4, 2) := by decide +kernel
theorem dL_law_456 : decode cL_law 456 = .ok (.iconst 3, 1) := by decide +kernel
theorem dL_law_457 : decode cL_law 457 = .ok (.iadd, 1) := by decide +kernel
theorem dL_law_458 : decode cL_law 458 = .ok (.iaload, 1) := by decide +kernel
theorem dL_law_459 : decode cL_law 459 = .ok (.invokevirtual 70, 3) := by decide +kernel
theorem dL_law_462 : decode cL_law 462 = .ok (.lstore 6, 2) := by decide +kernel
theorem dL_law_464 : decode cL_law 464 = .ok (.aload_n 2, 1) := by decide +kernel
theorem dL_law_465 : decode cL_law 465 = .ok (.invokevirtual 42, 3) := by decide +kernel
theorem dL_law_468 : decode cL_law 468 = .ok (.iload 5, 2) := by decide +kernel
theorem dL_law_470 : decode cL_law 470 = .ok (.if_icmp .eq 5, 3) := by decide +kernel
theorem dL_law_475 : decode cL_law 475 = .ok (.iload 5, 2) := by decide +kernel
theorem dL_law_477 : decode cL_law 477 = .ok (.ifCond .ne 14, 3) := by decide +kernel
theorem dL_law_480 : decode cL_law 480 = .ok (.aload_n 3, 1) := by decide +kernel
theorem dL_law_481 : decode cL_law 481 = .ok (.iconst 0, 1) := by decide +kernel
theorem dL_law_482 : decode cL_law 482 = .ok (.laload, 1) := by decide +kernel
theorem dL_law_483 : decode cL_law 483 = .ok (.lload 6, 2) := by decide +kernel
theorem dL_law_485 : decode cL_law 485 = .ok (.lcmp, 1) := by decide +kernel
theorem dL_law_486 : decode cL_law 486 = .ok (.ifCond .eq 5, 3) := by decide +kernel
theorem dL_law_491 : decode cL_law 491 = .ok (.goto 1014, 3) := by decide +kernel
theorem dL_law_494 : decode cL_law 494 = .ok (.aload_n 1, 1) := by decide +kernel
theorem dL_law_495 : decode cL_law 495 = .ok (.aload_n 0, 1) := by decide +kernel
theorem dL_law_496 : decode cL_law 496 = .ok (.iload 4, 2) := by decide +kernel
theorem dL_law_498 : decode cL_law 498 = .ok (.iconst 1, 1) := by decide +kernel
theorem dL_law_499 : decode cL_law 499 = .ok (.iadd, 1) := by decide +kernel
theorem dL_law_500 : decode cL_law 500 = .ok (.iaload, 1) := by decide +kernel
theorem dL_law_501 : decode cL_law 501 = .ok (.aload_n 0, 1) := by decide +kernel
theorem dL_law_502 : decode cL_law 502 = .ok (.iload 4, 2) := by decide +kernel
theorem dL_law_504 : decode cL_law 504 = .ok (.iconst 2, 1) := by decide +kernel
theorem dL_law_505 : decode cL_law 505 = .ok (.iadd, 1) := by decide +kernel
theorem dL_law_506 : decode cL_law 506 = .ok (.iaload, 1) := by decide +kernel
theorem dL_law_507 : decode cL_law 507 = .ok (.aload_n 0, 1) := by decide +kernel
theorem dL_law_508 : decode cL_law 508 = .ok (.iload 4, 2) := by decide +kernel
theorem dL_law_510 : decode cL_law 510 = .ok (.iconst 3, 1) := by decide +kernel
theorem dL_law_511 : decode cL_law 511 = .ok (.iadd, 1) := by decide +kernel
theorem dL_law_512 : decode cL_law 512 = .ok (.iaload, 1) := by decide +kernel
theorem dL_law_513 : decode cL_law 513 = .ok (.aload_n 3, 1) := by decide +kernel
theorem dL_law_514 : decode cL_law 514 = .ok (.invokestatic 71, 3) := by decide +kernel
theorem dL_law_517 : decode cL_law 517 = .ok (.istore 5, 2) := by decide +kernel
theorem dL_law_519 : decode cL_law 519 = .ok (.aload_n 2, 1) := by decide +kernel
theorem dL_law_520 : decode cL_law 520 = .ok (.aload_n 0, 1) := by decide +kernel
theorem dL_law_521 : decode cL_law 521 = .ok (.iload 4, 2) := by decide +kernel
theorem dL_law_523 : decode cL_law 523 = .ok (.iconst 1, 1) := by decide +kernel
theorem dL_law_524 : decode cL_law 524 = .ok (.iadd, 1) := by decide +kernel
theorem dL_law_525 : decode cL_law 525 = .ok (.iaload, 1) := by decide +kernel
theorem dL_law_526 : decode cL_law 526 = .ok (.aload_n 0, 1) := by decide +kernel
theorem dL_law_527 : decode cL_law 527 = .ok (.iload 4, 2) := by decide +kernel
theorem dL_law_529 : decode cL_law 529 = .ok (.iconst 2, 1) := by decide +kernel
theorem dL_law_530 : decode cL_law 530 = .ok (.iadd, 1) := by decide +kernel
theorem dL_law_531 : decode cL_law 531 = .ok (.iaload, 1) := by decide +kernel
theorem dL_law_532 : decode cL_law 532 = .ok (.aload_n 0, 1) := by decide +kernel
theorem dL_law_533 : decode cL_law 533 = .ok (.iload 4, 2) := by decide +kernel
theorem dL_law_535 : decode cL_law 535 = .ok (.iconst 3, 1) := by decide +kernel
theorem dL_law_536 : decode cL_law 536 = .ok (.iadd, 1) := by decide +kernel
theorem dL_law_537 : decode cL_law 537 = .ok (.iaload, 1) := by decide +kernel
theorem dL_law_538 : decode cL_law 538 = .ok (.invokevirtual 73, 3) := by decide +kernel
theorem dL_law_541 : decode cL_law 541 = .ok (.lstore 6, 2) := by decide +kernel
theorem dL_law_543 : decode cL_law 543 = .ok (.aload_n 2, 1) := by decide +kernel
theorem dL_law_544 : decode cL_law 544 = .ok (.invokevirtual 42, 3) := by decide +kernel
theorem dL_law_547 : decode cL_law 547 = .ok (.iload 5, 2) := by decide +kernel
theorem dL_law_549 : decode cL_law 549 = .ok (.if_icmp .eq 5, 3) := by decide +kernel
theorem dL_law_554 : decode cL_law 554 = .ok (.iload 5, 2) := by decide +kernel
theorem dL_law_556 : decode cL_law 556 = .ok (.ifCond .ne 14, 3) := by decide +kernel
theorem dL_law_559 : decode cL_law 559 = .ok (.aload_n 3, 1) := by decide +kernel
theorem dL_law_560 : decode cL_law 560 = .ok (.iconst 0, 1) := by decide +kernel
theorem dL_law_561 : decode cL_law 561 = .ok (.laload, 1) := by decide +kernel
theorem dL_law_562 : decode cL_law 562 = .ok (.lload 6, 2) := by decide +kernel
theorem dL_law_564 : decode cL_law 564 = .ok (.lcmp, 1) := by decide +kernel
theorem dL_law_565 : decode cL_law 565 = .ok (.ifCond .eq 5, 3) := by decide +kernel
theorem dL_law_570 : decode cL_law 570 = .ok (.goto 935, 3) := by decide +kernel
theorem dL_law_573 : decode cL_law 573 = .ok (.aload_n 1, 1) := by decide +kernel
theorem dL_law_574 : decode cL_law 574 = .ok (.aload_n 0, 1) := by decide +kernel
theorem dL_law_575 : decode cL_law 575 = .ok (.iload 4, 2) := by decide +kernel
theorem dL_law_577 : decode cL_law 577 = .ok (.iconst 1, 1) := by decide +kernel
theorem dL_law_578 : decode cL_law 578 = .ok (.iadd, 1) := by decide +kernel
theorem dL_law_579 : decode cL_law 579 = .ok (.iaload, 1) := by decide +kernel
theorem dL_law_580 : decode cL_law 580 = .ok (.aload_n 0, 1) := by decide +kernel
theorem dL_law_581 : decode cL_law 581 = .ok (.iload 4, 2) := by decide +kernel
theorem dL_law_583 : decode cL_law 583 = .ok (.iconst 2, 1) := by decide +kernel
theorem dL_law_584 : decode cL_law 584 = .ok (.iadd, 1) := by decide +kernel
theorem dL_law_585 : decode cL_law 585 = .ok (.iaload, 1) := by decide +kernel
theorem dL_law_586 : decode cL_law 586 = .ok (.i2l, 1) := by decide +kernel
theorem dL_law_587 : decode cL_law 587 = .ok (.bipush 32, 2) := by decide +kernel
theorem dL_law_589 : decode cL_law 589 = .ok (.lshl, 1) := by decide +kernel
theorem dL_law_590 : decode cL_law 590 = .ok (.aload_n 0, 1) := by decide +kernel
theorem dL_law_591 : decode cL_law 591 = .ok (.iload 4, 2) := by decide +kernel
theorem dL_law_593 : decode cL_law 593 = .ok (.iconst 3, 1) := by decide +kernel
theorem dL_law_594 : decode cL_law 594 = .ok (.iadd, 1) := by decide +kernel
theorem dL_law_595 : decode cL_law 595 = .ok (.iaload, 1) := by decide +kernel
theorem dL_law_596 : decode cL_law 596 = .ok (.i2l, 1) := by decide +kernel
theorem dL_law_597 : decode cL_law 597 = .ok (.ldc2_w 74, 3) := by decide +kernel
theorem dL_law_600 : decode cL_law 600 = .ok (.land, 1) := by decide +kernel
theorem dL_law_601 : decode cL_law 601 = .ok (.lor, 1) := by decide +kernel
theorem dL_law_602 : decode cL_law 602 = .ok (.aload_n 0, 1) := by decide +kernel
theorem dL_law_603 : decode cL_law 603 = .ok (.iload 4, 2) := by decide +kernel
theorem dL_law_605 : decode cL_law 605 = .ok (.iconst 4, 1) := by decide +kernel
theorem dL_law_606 : decode cL_law 606 = .ok (.iadd, 1) := by decide +kernel
theorem dL_law_607 : decode cL_law 607 = .ok (.iaload, 1) := by decide +kernel
theorem dL_law_608 : decode cL_law 608 = .ok (.i2l, 1) := by decide +kernel
theorem dL_law_609 : decode cL_law 609 = .ok (.bipush 32, 2) := by decide +kernel
theorem dL_law_611 : decode cL_law 611 = .ok (.lshl, 1) := by decide +kernel
theorem dL_law_612 : decode cL_law 612 = .ok (.aload_n 0, 1) := by decide +kernel
theorem dL_law_613 : decode cL_law 613 = .ok (.iload 4, 2) := by decide +kernel
theorem dL_law_615 : decode cL_law 615 = .ok (.iconst 5, 1) := by decide +kernel
theorem dL_law_616 : decode cL_law 616 = .ok (.iadd, 1) := by decide +kernel
theorem dL_law_617 : decode cL_law 617 = .ok (.iaload, 1) := by decide +kernel
theorem dL_law_618 : decode cL_law 618 = .ok (.i2l, 1) := by decide +kernel
theorem dL_law_619 : decode cL_law 619 = .ok (.ldc2_w 74, 3) := by decide +kernel
theorem dL_law_622 : decode cL_law 622 = .ok (.land, 1) := by decide +kernel
theorem dL_law_623 : decode cL_law 623 = .ok (.lor, 1) := by decide +kernel
theorem dL_law_624 : decode cL_law 624 = .ok (.invokevirtual 76, 3) := by decide +kernel
theorem dL_law_627 : decode cL_law 627 = .ok (.aload_n 2, 1) := by decide +kernel
theorem dL_law_628 : decode cL_law 628 = .ok (.aload_n 0, 1) := by decide +kernel
theorem dL_law_629 : decode cL_law 629 = .ok (.iload 4, 2) := by decide +kernel
theorem dL_law_631 : decode cL_law 631 = .ok (.iconst 1, 1) := by decide +kernel
theorem dL_law_632 : decode cL_law 632 = .ok (.iadd, 1) := by decide +kernel
theorem dL_law_633 : decode cL_law 633 = .ok (.iaload, 1) := by decide +kernel
theorem dL_law_634 : decode cL_law 634 = .ok (.aload_n 0, 1) := by decide +kernel
theorem dL_law_635 : decode cL_law 635 = .ok (.iload 4, 2) := by decide +kernel
theorem dL_law_637 : decode cL_law 637 = .ok (.iconst 2, 1) := by decide +kernel
theorem dL_law_638 : decode cL_law 638 = .ok (.iadd, 1) := by decide +kernel
theorem dL_law_639 : decode cL_law 639 = .ok (.iaload, 1) := by decide +kernel
theorem dL_law_640 : decode cL_law 640 = .ok (.i2l, 1) := by decide +kernel
theorem dL_law_641 : decode cL_law 641 = .ok (.bipush 32, 2) := by decide +kernel
theorem dL_law_643 : decode cL_law 643 = .ok (.lshl, 1) := by decide +kernel
theorem dL_law_644 : decode cL_law 644 = .ok (.aload_n 0, 1) := by decide +kernel
theorem dL_law_645 : decode cL_law 645 = .ok (.iload 4, 2) := by decide +kernel
theorem dL_law_647 : decode cL_law 647 = .ok (.iconst 3, 1) := by decide +kernel
theorem dL_law_648 : decode cL_law 648 = .ok (.iadd, 1) := by decide +kernel
theorem dL_law_649 : decode cL_law 649 = .ok (.iaload, 1) := by decide +kernel
theorem dL_law_650 : decode cL_law 650 = .ok (.i2l, 1) := by decide +kernel
theorem dL_law_651 : decode cL_law 651 = .ok (.ldc2_w 74, 3) := by decide +kernel
theorem dL_law_654 : decode cL_law 654 = .ok (.land, 1) := by decide +kernel
theorem dL_law_655 : decode cL_law 655 = .ok (.lor, 1) := by decide +kernel
theorem dL_law_656 : decode cL_law 656 = .ok (.aload_n 0, 1) := by decide +kernel
theorem dL_law_657 : decode cL_law 657 = .ok (.iload 4, 2) := by decide +kernel
theorem dL_law_659 : decode cL_law 659 = .ok (.iconst 4, 1) := by decide +kernel
theorem dL_law_660 : decode cL_law 660 = .ok (.iadd, 1) := by decide +kernel
theorem dL_law_661 : decode cL_law 661 = .ok (.iaload, 1) := by decide +kernel
theorem dL_law_662 : decode cL_law 662 = .ok (.i2l, 1) := by decide +kernel
theorem dL_law_663 : decode cL_law 663 = .ok (.bipush 32, 2) := by decide +kernel
theorem dL_law_665 : decode cL_law 665 = .ok (.lshl, 1) := by decide +kernel
theorem dL_law_666 : decode cL_law 666 = .ok (.aload_n 0, 1) := by decide +kernel
theorem dL_law_667 : decode cL_law 667 = .ok (.iload 4, 2) := by decide +kernel
theorem dL_law_669 : decode cL_law 669 = .ok (.iconst 5, 1) := by decide +kernel
theorem dL_law_670 : decode cL_law 670 = .ok (.iadd, 1) := by decide +kernel
theorem dL_law_671 : decode cL_law 671 = .ok (.iaload, 1) := by decide +kernel
theorem dL_law_672 : decode cL_law 672 = .ok (.i2l, 1) := by decide +kernel
theorem dL_law_673 : decode cL_law 673 = .ok (.ldc2_w 74, 3) := by decide +kernel
theorem dL_law_676 : decode cL_law 676 = .ok (.land, 1) := by decide +kernel
theorem dL_law_677 : decode cL_law 677 = .ok (.lor, 1) := by decide +kernel
theorem dL_law_678 : decode cL_law 678 = .ok (.invokevirtual 80, 3) := by decide +kernel
theorem dL_law_681 : decode cL_law 681 = .ok (.if_icmp .eq 824, 3) := by decide +kernel
theorem dL_law_686 : decode cL_law 686 = .ok (.aload_n 1, 1) := by decide +kernel
theorem dL_law_687 : decode cL_law 687 = .ok (.aload_n 0, 1) := by decide +kernel
theorem dL_law_688 : decode cL_law 688 = .ok (.iload 4, 2) := by decide +kernel
theorem dL_law_690 : decode cL_law 690 = .ok (.iconst 1, 1) := by decide +kernel
theorem dL_law_691 : decode cL_law 691 = .ok (.iadd, 1) := by decide +kernel
theorem dL_law_692 : decode cL_law 692 = .ok (.iaload, 1) := by decide +kernel
theorem dL_law_693 : decode cL_law 693 = .ok (.aload_n 0, 1) := by decide +kernel
theorem dL_law_694 : decode cL_law 694 = .ok (.iload 4, 2) := by decide +kernel
theorem dL_law_696 : decode cL_law 696 = .ok (.iconst 2, 1) := by decide +kernel
theorem dL_law_697 : decode cL_law 697 = .ok (.iadd, 1) := by decide +kernel
theorem dL_law_698 : decode cL_law 698 = .ok (.iaload, 1) := by decide +kernel
theorem dL_law_699 : decode cL_law 699 = .ok (.aload_n 0, 1) := by decide +kernel
theorem dL_law_700 : decode cL_law 700 = .ok (.iload 4, 2) := by decide +kernel
theorem dL_law_702 : decode cL_law 702 = .ok (.iconst 3, 1) := by decide +kernel
theorem dL_law_703 : decode cL_law 703 = .ok (.iadd, 1) := by decide +kernel
theorem dL_law_704 : decode cL_law 704 = .ok (.iaload, 1) := by decide +kernel
theorem dL_law_705 : decode cL_law 705 = .ok (.aload_n 0, 1) := by decide +kernel
theorem dL_law_706 : decode cL_law 706 = .ok (.iload 4, 2) := by decide +kernel
theorem dL_law_708 : decode cL_law 708 = .ok (.iconst 4, 1) := by decide +kernel
theorem dL_law_709 : decode cL_law 709 = .ok (.iadd, 1) := by decide +kernel
theorem dL_law_710 : decode cL_law 710 = .ok (.iaload, 1) := by decide +kernel
theorem dL_law_711 : decode cL_law 711 = .ok (.i2l, 1) := by decide +kernel
theorem dL_law_712 : decode cL_law 712 = .ok (.bipush 32, 2) := by decide +kernel
theorem dL_law_714 : decode cL_law 714 = .ok (.lshl, 1) := by decide +kernel
theorem dL_law_715 : decode cL_law 715 = .ok (.aload_n 0, 1) := by decide +kernel
theorem dL_law_716 : decode cL_law 716 = .ok (.iload 4, 2) := by decide +kernel
theorem dL_law_718 : decode cL_law 718 = .ok (.iconst 5, 1) := by decide +kernel
theorem dL_law_719 : decode cL_law 719 = .ok (.iadd, 1) := by decide +kernel
theorem dL_law_720 : decode cL_law 720 = .ok (.iaload, 1) := by decide +kernel
theorem dL_law_721 : decode cL_law 721 = .ok (.i2l, 1) := by decide +kernel
theorem dL_law_722 : decode cL_law 722 = .ok (.ldc2_w 74, 3) := by decide +kernel
theorem dL_law_725 : decode cL_law 725 = .ok (.land, 1) := by decide +kernel
theorem dL_law_726 : decode cL_law 726 = .ok (.lor, 1) := by decide +kernel
theorem dL_law_727 : decode cL_law 727 = .ok (.aload_n 0, 1) := by decide +kernel
theorem dL_law_728 : decode cL_law 728 = .ok (.iload 4, 2) := by decide +kernel
theorem dL_law_730 : decode cL_law 730 = .ok (.bipush 6, 2) := by decide +kernel
theorem dL_law_732 : decode cL_law 732 = .ok (.iadd, 1) := by decide +kernel
theorem dL_law_733 : decode cL_law 733 = .ok (.iaload, 1) := by decide +kernel
theorem dL_law_734 : decode cL_law 734 = .ok (.i2l, 1) := by decide +kernel
theorem dL_law_735 : decode cL_law 735 = .ok (.bipush 32, 2) := by decide +kernel
theorem dL_law_737 : decode cL_law 737 = .ok (.lshl, 1) := by decide +kernel
theorem dL_law_738 : decode cL_law 738 = .ok (.aload_n 0, 1) := by decide +kernel
theorem dL_law_739 : decode cL_law 739 = .ok (.iload 4, 2) := by decide +kernel
theorem dL_law_741 : decode cL_law 741 = .ok (.bipush 7, 2) := by decide +kernel
theorem dL_law_743 : decode cL_law 743 = .ok (.iadd, 1) := by decide +kernel
theorem dL_law_744 : decode cL_law 744 = .ok (.iaload, 1) := by decide +kernel
theorem dL_law_745 : decode cL_law 745 = .ok (.i2l, 1) := by decide +kernel
theorem dL_law_746 : decode cL_law 746 = .ok (.ldc2_w 74, 3) := by decide +kernel
theorem dL_law_749 : decode cL_law 749 = .ok (.land, 1) := by decide +kernel
theorem dL_law_750 : decode cL_law 750 = .ok (.lor, 1) := by decide +kernel
theorem dL_law_751 : decode cL_law 751 = .ok (.invokevirtual 81, 3) := by decide +kernel
theorem dL_law_754 : decode cL_law 754 = .ok (.aload_n 2, 1) := by decide +kernel
theorem dL_law_755 : decode cL_law 755 = .ok (.aload_n 0, 1) := by decide +kernel
theorem dL_law_756 : decode cL_law 756 = .ok (.iload 4, 2) := by decide +kernel
theorem dL_law_758 : decode cL_law 758 = .ok (.iconst 1, 1) := by decide +kernel
theorem dL_law_759 : decode cL_law 759 = .ok (.iadd, 1) := by decide +kernel
theorem dL_law_760 : decode cL_law 760 = .ok (.iaload, 1) := by decide +kernel
theorem dL_law_761 : decode cL_law 761 = .ok (.aload_n 0, 1) := by decide +kernel
theorem dL_law_762 : decode cL_law 762 = .ok (.iload 4, 2) := by decide +kernel
theorem dL_law_764 : decode cL_law 764 = .ok (.iconst 2, 1) := by decide +kernel
theorem dL_law_765 : decode cL_law 765 = .ok (.iadd, 1) := by decide +kernel
theorem dL_law_766 : decode cL_law 766 = .ok (.iaload, 1) := by decide +kernel
theorem dL_law_767 : decode cL_law 767 = .ok (.aload_n 0, 1) := by decide +kernel
theorem dL_law_768 : decode cL_law 768 = .ok (.iload 4, 2) := by decide +kernel
theorem dL_law_770 : decode cL_law 770 = .ok (.iconst 3, 1) := by decide +kernel
theorem dL_law_771 : decode cL_law 771 = .ok (.iadd, 1) := by decide +kernel
theorem dL_law_772 : decode cL_law 772 = .ok (.iaload, 1) := by decide +kernel
theorem dL_law_773 : decode cL_law 773 = .ok (.aload_n 0, 1) := by decide +kernel
theorem dL_law_774 : decode cL_law 774 = .ok (.iload 4, 2) := by decide +kernel
theorem dL_law_776 : decode cL_law 776 = .ok (.iconst 4, 1) := by decide +kernel
theorem dL_law_777 : decode cL_law 777 = .ok (.iadd, 1) := by decide +kernel
theorem dL_law_778 : decode cL_law 778 = .ok (.iaload, 1) := by decide +kernel
theorem dL_law_779 : decode cL_law 779 = .ok (.i2l, 1) := by decide +kernel
theorem dL_law_780 : decode cL_law 780 = .ok (.bipush 32, 2) := by decide +kernel
theorem dL_law_782 : decode cL_law 782 = .ok (.lshl, 1) := by decide +kernel
theorem dL_law_783 : decode cL_law 783 = .ok (.aload_n 0, 1) := by decide +kernel
theorem dL_law_784 : decode cL_law 784 = .ok (.iload 4, 2) := by decide +kernel
theorem dL_law_786 : decode cL_law 786 = .ok (.iconst 5, 1) := by decide +kernel
theorem dL_law_787 : decode cL_law 787 = .ok (.iadd, 1) := by decide +kernel
theorem dL_law_788 : decode cL_law 788 = .ok (.iaload, 1) := by decide +kernel
theorem dL_law_789 : decode cL_law 789 = .ok (.i2l, 1) := by decide +kernel
theorem dL_law_790 : decode cL_law 790 = .ok (.ldc2_w 74, 3) := by decide +kernel
theorem dL_law_793 : decode cL_law 793 = .ok (.land, 1) := by decide +kernel
theorem dL_law_794 : decode cL_law 794 = .ok (.lor, 1) := by decide +kernel
theorem dL_law_795 : decode cL_law 795 = .ok (.aload_n 0, 1) := by decide +kernel
theorem dL_law_796 : decode cL_law 796 = .ok (.iload 4, 2) := by decide +kernel
theorem dL_law_798 : decode cL_law 798 = .ok (.bipush 6, 2) := by decide +kernel
theorem dL_law_800 : decode cL_law 800 = .ok (.iadd, 1) := by decide +kernel
theorem dL_law_801 : decode cL_law 801 = .ok (.iaload, 1) := by decide +kernel
theorem dL_law_802 : decode cL_law 802 = .ok (.i2l, 1) := by decide +kernel
theorem dL_law_803 : decode cL_law 803 = .ok (.bipush 32, 2) := by decide +kernel
theorem dL_law_805 : decode cL_law 805 = .ok (.lshl, 1) := by decide +kernel
theorem dL_law_806 : decode cL_law 806 = .ok (.aload_n 0, 1) := by decide +kernel
theorem dL_law_807 : decode cL_law 807 = .ok (.iload 4, 2) := by decide +kernel
theorem dL_law_809 : decode cL_law 809 = .ok (.bipush 7, 2) := by decide +kernel
theorem dL_law_811 : decode cL_law 811 = .ok (.iadd, 1) := by decide +kernel
theorem dL_law_812 : decode cL_law 812 = .ok (.iaload, 1) := by decide +kernel
theorem dL_law_813 : decode cL_law 813 = .ok (.i2l, 1) := by decide +kernel
theorem dL_law_814 : decode cL_law 814 = .ok (.ldc2_w 74, 3) := by decide +kernel
theorem dL_law_817 : decode cL_law 817 = .ok (.land, 1) := by decide +kernel
theorem dL_law_818 : decode cL_law 818 = .ok (.lor, 1) := by decide +kernel
theorem dL_law_819 : decode cL_law 819 = .ok (.invokevirtual 85, 3) := by decide +kernel
theorem dL_law_822 : decode cL_law 822 = .ok (.if_icmp .eq 683, 3) := by decide +kernel
theorem dL_law_827 : decode cL_law 827 = .ok (.aload_n 1, 1) := by decide +kernel
theorem dL_law_828 : decode cL_law 828 = .ok (.aload_n 0, 1) := by decide +kernel
theorem dL_law_829 : decode cL_law 829 = .ok (.iload 4, 2) := by decide +kernel
theorem dL_law_831 : decode cL_law 831 = .ok (.iconst 1, 1) := by decide +kernel
theorem dL_law_832 : decode cL_law 832 = .ok (.iadd, 1) := by decide +kernel
theorem dL_law_833 : decode cL_law 833 = .ok (.iaload, 1) := by decide +kernel
theorem dL_law_834 : decode cL_law 834 = .ok (.aload_n 0, 1) := by decide +kernel
theorem dL_law_835 : decode cL_law 835 = .ok (.iload 4, 2) := by decide +kernel
theorem dL_law_837 : decode cL_law 837 = .ok (.iconst 2, 1) := by decide +kernel
theorem dL_law_838 : decode cL_law 838 = .ok (.iadd, 1) := by decide +kernel
theorem dL_law_839 : decode cL_law 839 = .ok (.iaload, 1) := by decide +kernel
theorem dL_law_840 : decode cL_law 840 = .ok (.aload_n 0, 1) := by decide +kernel
theorem dL_law_841 : decode cL_law 841 = .ok (.iload 4, 2) := by decide +kernel
theorem dL_law_843 : decode cL_law 843 = .ok (.iconst 3, 1) := by decide +kernel
theorem dL_law_844 : decode cL_law 844 = .ok (.iadd, 1) := by decide +kernel
theorem dL_law_845 : decode cL_law 845 = .ok (.iaload, 1) := by decide +kernel
theorem dL_law_846 : decode cL_law 846 = .ok (.aload_n 0, 1) := by decide +kernel
theorem dL_law_847 : decode cL_law 847 = .ok (.iload 4, 2) := by decide +kernel
theorem dL_law_849 : decode cL_law 849 = .ok (.iconst 4, 1) := by decide +kernel
theorem dL_law_850 : decode cL_law 850 = .ok (.iadd, 1) := by decide +kernel
theorem dL_law_851 : decode cL_law 851 = .ok (.iaload, 1) := by decide +kernel
theorem dL_law_852 : decode cL_law 852 = .ok (.i2l, 1) := by decide +kernel
theorem dL_law_853 : decode cL_law 853 = .ok (.bipush 32, 2) := by decide +kernel
theorem dL_law_855 : decode cL_law 855 = .ok (.lshl, 1) := by decide +kernel
theorem dL_law_856 : decode cL_law 856 = .ok (.aload_n 0, 1) := by decide +kernel
theorem dL_law_857 : decode cL_law 857 = .ok (.iload 4, 2) := by decide +kernel
theorem dL_law_859 : decode cL_law 859 = .ok (.iconst 5, 1) := by decide +kernel
theorem dL_law_860 : decode cL_law 860 = .ok (.iadd, 1) := by decide +kernel
theorem dL_law_861 : decode cL_law 861 = .ok (.iaload, 1) := by decide +kernel
theorem dL_law_862 : decode cL_law 862 = .ok (.i2l, 1) := by decide +kernel
theorem dL_law_863 : decode cL_law 863 = .ok (.ldc2_w 74, 3) := by decide +kernel
theorem dL_law_866 : decode cL_law 866 = .ok (.land, 1) := by decide +kernel
theorem dL_law_867 : decode cL_law 867 = .ok (.lor, 1) := by decide +kernel
theorem dL_law_868 : decode cL_law 868 = .ok (.aload_n 0, 1) := by decide +kernel
theorem dL_law_869 : decode cL_law 869 = .ok (.iload 4, 2) := by decide +kernel
theorem dL_law_871 : decode cL_law 871 = .ok (.bipush 6, 2) := by decide +kernel
theorem dL_law_873 : decode cL_law 873 = .ok (.iadd, 1) := by decide +kernel
theorem dL_law_874 : decode cL_law 874 = .ok (.iaload, 1) := by decide +kernel
theorem dL_law_875 : decode cL_law 875 = .ok (.i2l, 1) := by decide +kernel
theorem dL_law_876 : decode cL_law 876 = .ok (.bipush 32, 2) := by decide +kernel
theorem dL_law_878 : decode cL_law 878 = .ok (.lshl, 1) := by decide +kernel
theorem dL_law_879 : decode cL_law 879 = .ok (.aload_n 0, 1) := by decide +kernel
theorem dL_law_880 : decode cL_law 880 = .ok (.iload 4, 2) := by decide +kernel
theorem dL_law_882 : decode cL_law 882 = .ok (.bipush 7, 2) := by decide +kernel
theorem dL_law_884 : decode cL_law 884 = .ok (.iadd, 1) := by decide +kernel
theorem dL_law_885 : decode cL_law 885 = .ok (.iaload, 1) := by decide +kernel
theorem dL_law_886 : decode cL_law 886 = .ok (.i2l, 1) := by decide +kernel
theorem dL_law_887 : decode cL_law 887 = .ok (.ldc2_w 74, 3) := by decide +kernel
theorem dL_law_890 : decode cL_law 890 = .ok (.land, 1) := by decide +kernel
theorem dL_law_891 : decode cL_law 891 = .ok (.lor, 1) := by decide +kernel
theorem dL_law_892 : decode cL_law 892 = .ok (.invokevirtual 86, 3) := by decide +kernel
theorem dL_law_895 : decode cL_law 895 = .ok (.aload_n 2, 1) := by decide +kernel
theorem dL_law_896 : decode cL_law 896 = .ok (.aload_n 0, 1) := by decide +kernel
theorem dL_law_897 : decode cL_law 897 = .ok (.iload 4, 2) := by decide +kernel
theorem dL_law_899 : decode cL_law 899 = .ok (.iconst 1, 1) := by decide +kernel
theorem dL_law_900 : decode cL_law 900 = .ok (.iadd, 1) := by decide +kernel
theorem dL_law_901 : decode cL_law 901 = .ok (.iaload, 1) := by decide +kernel
theorem dL_law_902 : decode cL_law 902 = .ok (.aload_n 0, 1) := by decide +kernel
theorem dL_law_903 : decode cL_law 903 = .ok (.iload 4, 2) := by decide +kernel
theorem dL_law_905 : decode cL_law 905 = .ok (.iconst 2, 1) := by decide +kernel
theorem dL_law_906 : decode cL_law 906 = .ok (.iadd, 1) := by decide +kernel
theorem dL_law_907 : decode cL_law 907 = .ok (.iaload, 1) := by decide +kernel
theorem dL_law_908 : decode cL_law 908 = .ok (.aload_n 0, 1) := by decide +kernel
theorem dL_law_909 : decode cL_law 909 = .ok (.iload 4, 2) := by decide +kernel
theorem dL_law_911 : decode cL_law 911 = .ok (.iconst 3, 1) := by decide +kernel
theorem dL_law_912 : decode cL_law 912 = .ok (.iadd, 1) := by decide +kernel
theorem dL_law_913 : decode cL_law 913 = .ok (.iaload, 1) := by decide +kernel
theorem dL_law_914 : decode cL_law 914 = .ok (.aload_n 0, 1) := by decide +kernel
theorem dL_law_915 : decode cL_law 915 = .ok (.iload 4, 2) := by decide +kernel
theorem dL_law_917 : decode cL_law 917 = .ok (.iconst 4, 1) := by decide +kernel
theorem dL_law_918 : decode cL_law 918 = .ok (.iadd, 1) := by decide +kernel
theorem dL_law_919 : decode cL_law 919 = .ok (.iaload, 1) := by decide +kernel
theorem dL_law_920 : decode cL_law 920 = .ok (.i2l, 1) := by decide +kernel
theorem dL_law_921 : decode cL_law 921 = .ok (.bipush 32, 2) := by decide +kernel
theorem dL_law_923 : decode cL_law 923 = .ok (.lshl, 1) := by decide +kernel
theorem dL_law_924 : decode cL_law 924 = .ok (.aload_n 0, 1) := by decide +kernel
theorem dL_law_925 : decode cL_law 925 = .ok (.iload 4, 2) := by decide +kernel
theorem dL_law_927 : decode cL_law 927 = .ok (.iconst 5, 1) := by decide +kernel
theorem dL_law_928 : decode cL_law 928 = .ok (.iadd, 1) := by decide +kernel
theorem dL_law_929 : decode cL_law 929 = .ok (.iaload, 1) := by decide +kernel
theorem dL_law_930 : decode cL_law 930 = .ok (.i2l, 1) := by decide +kernel
theorem dL_law_931 : decode cL_law 931 = .ok (.ldc2_w 74, 3) := by decide +kernel
theorem dL_law_934 : decode cL_law 934 = .ok (.land, 1) := by decide +kernel
theorem dL_law_935 : decode cL_law 935 = .ok (.lor, 1) := by decide +kernel
theorem dL_law_936 : decode cL_law 936 = .ok (.aload_n 0, 1) := by decide +kernel
theorem dL_law_937 : decode cL_law 937 = .ok (.iload 4, 2) := by decide +kernel
theorem dL_law_939 : decode cL_law 939 = .ok (.bipush 6, 2) := by decide +kernel
theorem dL_law_941 : decode cL_law 941 = .ok (.iadd, 1) := by decide +kernel
theorem dL_law_942 : decode cL_law 942 = .ok (.iaload, 1) := by decide +kernel
theorem dL_law_943 : decode cL_law 943 = .ok (.i2l, 1) := by decide +kernel
theorem dL_law_944 : decode cL_law 944 = .ok (.bipush 32, 2) := by decide +kernel
theorem dL_law_946 : decode cL_law 946 = .ok (.lshl, 1) := by decide +kernel
theorem dL_law_947 : decode cL_law 947 = .ok (.aload_n 0, 1) := by decide +kernel
theorem dL_law_948 : decode cL_law 948 = .ok (.iload 4, 2) := by decide +kernel
theorem dL_law_950 : decode cL_law 950 = .ok (.bipush 7, 2) := by decide +kernel
theorem dL_law_952 : decode cL_law 952 = .ok (.iadd, 1) := by decide +kernel
theorem dL_law_953 : decode cL_law 953 = .ok (.iaload, 1) := by decide +kernel
theorem dL_law_954 : decode cL_law 954 = .ok (.i2l, 1) := by decide +kernel
theorem dL_law_955 : decode cL_law 955 = .ok (.ldc2_w 74, 3) := by decide +kernel
theorem dL_law_958 : decode cL_law 958 = .ok (.land, 1) := by decide +kernel
theorem dL_law_959 : decode cL_law 959 = .ok (.lor, 1) := by decide +kernel
theorem dL_law_960 : decode cL_law 960 = .ok (.invokevirtual 89, 3) := by decide +kernel
theorem dL_law_963 : decode cL_law 963 = .ok (.if_icmp .eq 542, 3) := by decide +kernel
theorem dL_law_968 : decode cL_law 968 = .ok (.aload_n 1, 1) := by decide +kernel
theorem dL_law_969 : decode cL_law 969 = .ok (.aload_n 0, 1) := by decide +kernel
theorem dL_law_970 : decode cL_law 970 = .ok (.iload 4, 2) := by decide +kernel
theorem dL_law_972 : decode cL_law 972 = .ok (.iconst 1, 1) := by decide +kernel
theorem dL_law_973 : decode cL_law 973 = .ok (.iadd, 1) := by decide +kernel
theorem dL_law_974 : decode cL_law 974 = .ok (.iaload, 1) := by decide +kernel
theorem dL_law_975 : decode cL_law 975 = .ok (.invokevirtual 90, 3) := by decide +kernel
theorem dL_law_978 : decode cL_law 978 = .ok (.aload_n 2, 1) := by decide +kernel
theorem dL_law_979 : decode cL_law 979 = .ok (.aload_n 0, 1) := by decide +kernel
theorem dL_law_980 : decode cL_law 980 = .ok (.iload 4, 2) := by decide +kernel
theorem dL_law_982 : decode cL_law 982 = .ok (.iconst 1, 1) := by decide +kernel
theorem dL_law_983 : decode cL_law 983 = .ok (.iadd, 1) := by decide +kernel
theorem dL_law_984 : decode cL_law 984 = .ok (.iaload, 1) := by decide +kernel
theorem dL_law_985 : decode cL_law 985 = .ok (.invokevirtual 93, 3) := by decide +kernel
theorem dL_law_988 : decode cL_law 988 = .ok (.if_icmp .eq 517, 3) := by decide +kernel
theorem dL_law_993 : decode cL_law 993 = .ok (.aload_n 1, 1) := by decide +kernel
theorem dL_law_994 : decode cL_law 994 = .ok (.aload_n 0, 1) := by decide +kernel
theorem dL_law_995 : decode cL_law 995 = .ok (.iload 4, 2) := by decide +kernel
theorem dL_law_997 : decode cL_law 997 = .ok (.iconst 1, 1) := by decide +kernel
theorem dL_law_998 : decode cL_law 998 = .ok (.iadd, 1) := by decide +kernel
theorem dL_law_999 : decode cL_law 999 = .ok (.iaload, 1) := by decide +kernel
theorem dL_law_1000 : decode cL_law 1000 = .ok (.i2l, 1) := by decide +kernel
theorem dL_law_1001 : decode cL_law 1001 = .ok (.bipush 32, 2) := by decide +kernel
theorem dL_law_1003 : decode cL_law 1003 = .ok (.lshl, 1) := by decide +kernel
theorem dL_law_1004 : decode cL_law 1004 = .ok (.aload_n 0, 1) := by decide +kernel
theorem dL_law_1005 : decode cL_law 1005 = .ok (.iload 4, 2) := by decide +kernel
theorem dL_law_1007 : decode cL_law 1007 = .ok (.iconst 2, 1) := by decide +kernel
theorem dL_law_1008 : decode cL_law 1008 = .ok (.iadd, 1) := by decide +kernel
theorem dL_law_1009 : decode cL_law 1009 = .ok (.iaload, 1) := by decide +kernel
theorem dL_law_1010 : decode cL_law 1010 = .ok (.i2l, 1) := by decide +kernel
theorem dL_law_1011 : decode cL_law 1011 = .ok (.ldc2_w 74, 3) := by decide +kernel
theorem dL_law_1014 : decode cL_law 1014 = .ok (.land, 1) := by decide +kernel
theorem dL_law_1015 : decode cL_law 1015 = .ok (.lor, 1) := by decide +kernel
theorem dL_law_1016 : decode cL_law 1016 = .ok (.aload_n 0, 1) := by decide +kernel
theorem dL_law_1017 : decode cL_law 1017 = .ok (.iload 4, 2) := by decide +kernel
theorem dL_law_1019 : decode cL_law 1019 = .ok (.iconst 3, 1) := by decide +kernel
theorem dL_law_1020 : decode cL_law 1020 = .ok (.iadd, 1) := by decide +kernel
theorem dL_law_1021 : decode cL_law 1021 = .ok (.iaload, 1) := by decide +kernel
theorem dL_law_1022 : decode cL_law 1022 = .ok (.aload_n 0, 1) := by decide +kernel
theorem dL_law_1023 : decode cL_law 1023 = .ok (.iload 4, 2) := by decide +kernel
theorem dL_law_1025 : decode cL_law 1025 = .ok (.iconst 4, 1) := by decide +kernel
theorem dL_law_1026 : decode cL_law 1026 = .ok (.iadd, 1) := by decide +kernel
theorem dL_law_1027 : decode cL_law 1027 = .ok (.iaload, 1) := by decide +kernel
theorem dL_law_1028 : decode cL_law 1028 = .ok (.invokevirtual 94, 3) := by decide +kernel
theorem dL_law_1031 : decode cL_law 1031 = .ok (.aload_n 2, 1) := by decide +kernel
theorem dL_law_1032 : decode cL_law 1032 = .ok (.aload_n 0, 1) := by decide +kernel
theorem dL_law_1033 : decode cL_law 1033 = .ok (.iload 4, 2) := by decide +kernel
theorem dL_law_1035 : decode cL_law 1035 = .ok (.iconst 1, 1) := by decide +kernel
theorem dL_law_1036 : decode cL_law 1036 = .ok (.iadd, 1) := by decide +kernel
theorem dL_law_1037 : decode cL_law 1037 = .ok (.iaload, 1) := by decide +kernel
theorem dL_law_1038 : decode cL_law 1038 = .ok (.i2l, 1) := by decide +kernel
theorem dL_law_1039 : decode cL_law 1039 = .ok (.bipush 32, 2) := by decide +kernel
theorem dL_law_1041 : decode cL_law 1041 = .ok (.lshl, 1) := by decide +kernel
theorem dL_law_1042 : decode cL_law 1042 = .ok (.aload_n 0, 1) := by decide +kernel
theorem dL_law_1043 : decode cL_law 1043 = .ok (.iload 4, 2) := by decide +kernel
theorem dL_law_1045 : decode cL_law 1045 = .ok (.iconst 2, 1) := by decide +kernel
theorem dL_law_1046 : decode cL_law 1046 = .ok (.iadd, 1) := by decide +kernel
theorem dL_law_1047 : decode cL_law 1047 = .ok (.iaload, 1) := by decide +kernel
theorem dL_law_1048 : decode cL_law 1048 = .ok (.i2l, 1) := by decide +kernel
theorem dL_law_1049 : decode cL_law 1049 = .ok (.ldc2_w 74, 3) := by decide +kernel
theorem dL_law_1052 : decode cL_law 1052 = .ok (.land, 1) := by decide +kernel
theorem dL_law_1053 : decode cL_law 1053 = .ok (.lor, 1) := by decide +kernel
theorem dL_law_1054 : decode cL_law 1054 = .ok (.aload_n 0, 1) := by decide +kernel
theorem dL_law_1055 : decode cL_law 1055 = .ok (.iload 4, 2) := by decide +kernel
theorem dL_law_1057 : decode cL_law 1057 = .ok (.iconst 3, 1) := by decide +kernel
theorem dL_law_1058 : decode cL_law 1058 = .ok (.iadd, 1) := by decide +kernel
theorem dL_law_1059 : decode cL_law 1059 = .ok (.iaload, 1) := by decide +kernel
theorem dL_law_1060 : decode cL_law 1060 = .ok (.aload_n 0, 1) := by decide +kernel
theorem dL_law_1061 : decode cL_law 1061 = .ok (.iload 4, 2) := by decide +kernel
theorem dL_law_1063 : decode cL_law 1063 = .ok (.iconst 4, 1) := by decide +kernel
theorem dL_law_1064 : decode cL_law 1064 = .ok (.iadd, 1) := by decide +kernel
theorem dL_law_1065 : decode cL_law 1065 = .ok (.iaload, 1) := by decide +kernel
theorem dL_law_1066 : decode cL_law 1066 = .ok (.invokevirtual 98, 3) := by decide +kernel
theorem dL_law_1069 : decode cL_law 1069 = .ok (.if_icmp .eq 436, 3) := by decide +kernel
theorem dL_law_1074 : decode cL_law 1074 = .ok (.aload_n 1, 1) := by decide +kernel
theorem dL_law_1075 : decode cL_law 1075 = .ok (.aload_n 0, 1) := by decide +kernel
theorem dL_law_1076 : decode cL_law 1076 = .ok (.iload 4, 2) := by decide +kernel
theorem dL_law_1078 : decode cL_law 1078 = .ok (.iconst 1, 1) := by decide +kernel
theorem dL_law_1079 : decode cL_law 1079 = .ok (.iadd, 1) := by decide +kernel
theorem dL_law_1080 : decode cL_law 1080 = .ok (.iaload, 1) := by decide +kernel
theorem dL_law_1081 : decode cL_law 1081 = .ok (.aload_n 0, 1) := by decide +kernel
theorem dL_law_1082 : decode cL_law 1082 = .ok (.iload 4, 2) := by decide +kernel
theorem dL_law_1084 : decode cL_law 1084 = .ok (.iconst 2, 1) := by decide +kernel
theorem dL_law_1085 : decode cL_law 1085 = .ok (.iadd, 1) := by decide +kernel
theorem dL_law_1086 : decode cL_law 1086 = .ok (.iaload, 1) := by decide +kernel
theorem dL_law_1087 : decode cL_law 1087 = .ok (.aload_n 0, 1) := by decide +kernel
theorem dL_law_1088 : decode cL_law 1088 = .ok (.iload 4, 2) := by decide +kernel
theorem dL_law_1090 : decode cL_law 1090 = .ok (.iconst 3, 1) := by decide +kernel
theorem dL_law_1091 : decode cL_law 1091 = .ok (.iadd, 1) := by decide +kernel
theorem dL_law_1092 : decode cL_law 1092 = .ok (.iaload, 1) := by decide +kernel
theorem dL_law_1093 : decode cL_law 1093 = .ok (.aload_n 0, 1) := by decide +kernel
theorem dL_law_1094 : decode cL_law 1094 = .ok (.iload 4, 2) := by decide +kernel
theorem dL_law_1096 : decode cL_law 1096 = .ok (.iconst 4, 1) := by decide +kernel
theorem dL_law_1097 : decode cL_law 1097 = .ok (.iadd, 1) := by decide +kernel
theorem dL_law_1098 : decode cL_law 1098 = .ok (.iaload, 1) := by decide +kernel
theorem dL_law_1099 : decode cL_law 1099 = .ok (.invokevirtual 99, 3) := by decide +kernel
theorem dL_law_1102 : decode cL_law 1102 = .ok (.aload_n 2, 1) := by decide +kernel
theorem dL_law_1103 : decode cL_law 1103 = .ok (.aload_n 0, 1) := by decide +kernel
theorem dL_law_1104 : decode cL_law 1104 = .ok (.iload 4, 2) := by decide +kernel
theorem dL_law_1106 : decode cL_law 1106 = .ok (.iconst 1, 1) := by decide +kernel
theorem dL_law_1107 : decode cL_law 1107 = .ok (.iadd, 1) := by decide +kernel
theorem dL_law_1108 : decode cL_law 1108 = .ok (.iaload, 1) := by decide +kernel
theorem dL_law_1109 : decode cL_law 1109 = .ok (.aload_n 0, 1) := by decide +kernel
theorem dL_law_1110 : decode cL_law 1110 = .ok (.iload 4, 2) := by decide +kernel
theorem dL_law_1112 : decode cL_law 1112 = .ok (.iconst 2, 1) := by decide +kernel
theorem dL_law_1113 : decode cL_law 1113 = .ok (.iadd, 1) := by decide +kernel
theorem dL_law_1114 : decode cL_law 1114 = .ok (.iaload, 1) := by decide +kernel
theorem dL_law_1115 : decode cL_law 1115 = .ok (.aload_n 0, 1) := by decide +kernel
theorem dL_law_1116 : decode cL_law 1116 = .ok (.iload 4, 2) := by decide +kernel
theorem dL_law_1118 : decode cL_law 1118 = .ok (.iconst 3, 1) := by decide +kernel
theorem dL_law_1119 : decode cL_law 1119 = .ok (.iadd, 1) := by decide +kernel
theorem dL_law_1120 : decode cL_law 1120 = .ok (.iaload, 1) := by decide +kernel
theorem dL_law_1121 : decode cL_law 1121 = .ok (.aload_n 0, 1) := by decide +kernel
theorem dL_law_1122 : decode cL_law 1122 = .ok (.iload 4, 2) := by decide +kernel
theorem dL_law_1124 : decode cL_law 1124 = .ok (.iconst 4, 1) := by decide +kernel
theorem dL_law_1125 : decode cL_law 1125 = .ok (.iadd, 1) := by decide +kernel
theorem dL_law_1126 : decode cL_law 1126 = .ok (.iaload, 1) := by decide +kernel
theorem dL_law_1127 : decode cL_law 1127 = .ok (.invokevirtual 103, 3) := by decide +kernel
theorem dL_law_1130 : decode cL_law 1130 = .ok (.lcmp, 1) := by decide +kernel
theorem dL_law_1131 : decode cL_law 1131 = .ok (.ifCond .eq 374, 3) := by decide +kernel
theorem dL_law_1136 : decode cL_law 1136 = .ok (.aload_n 1, 1) := by decide +kernel
theorem dL_law_1137 : decode cL_law 1137 = .ok (.aload_n 0, 1) := by decide +kernel
theorem dL_law_1138 : decode cL_law 1138 = .ok (.iload 4, 2) := by decide +kernel
theorem dL_law_1140 : decode cL_law 1140 = .ok (.iconst 1, 1) := by decide +kernel
theorem dL_law_1141 : decode cL_law 1141 = .ok (.iadd, 1) := by decide +kernel
theorem dL_law_1142 : decode cL_law 1142 = .ok (.iaload, 1) := by decide +kernel
theorem dL_law_1143 : decode cL_law 1143 = .ok (.aload_n 0, 1) := by decide +kernel
theorem dL_law_1144 : decode cL_law 1144 = .ok (.iload 4, 2) := by decide +kernel
theorem dL_law_1146 : decode cL_law 1146 = .ok (.iconst 2, 1) := by decide +kernel
theorem dL_law_1147 : decode cL_law 1147 = .ok (.iadd, 1) := by decide +kernel
theorem dL_law_1148 : decode cL_law 1148 = .ok (.iaload, 1) := by decide +kernel
theorem dL_law_1149 : decode cL_law 1149 = .ok (.i2l, 1) := by decide +kernel
theorem dL_law_1150 : decode cL_law 1150 = .ok (.bipush 32, 2) := by decide +kernel
theorem dL_law_1152 : decode cL_law 1152 = .ok (.lshl, 1) := by decide +kernel
theorem dL_law_1153 : decode cL_law 1153 = .ok (.aload_n 0, 1) := by decide +kernel
theorem dL_law_1154 : decode cL_law 1154 = .ok (.iload 4, 2) := by decide +kernel
theorem dL_law_1156 : decode cL_law 1156 = .ok (.iconst 3, 1) := by decide +kernel
theorem dL_law_1157 : decode cL_law 1157 = .ok (.iadd, 1) := by decide +kernel
theorem dL_law_1158 : decode cL_law 1158 = .ok (.iaload, 1) := by decide +kernel
theorem dL_law_1159 : decode cL_law 1159 = .ok (.i2l, 1) := by decide +kernel
theorem dL_law_1160 : decode cL_law 1160 = .ok (.ldc2_w 74, 3) := by decide +kernel
theorem dL_law_1163 : decode cL_law 1163 = .ok (.land, 1) := by decide +kernel
theorem dL_law_1164 : decode cL_law 1164 = .ok (.lor, 1) := by decide +kernel
theorem dL_law_1165 : decode cL_law 1165 = .ok (.invokevirtual 104, 3) := by decide +kernel
theorem dL_law_1168 : decode cL_law 1168 = .ok (.aload_n 2, 1) := by decide +kernel
theorem dL_law_1169 : decode cL_law 1169 = .ok (.aload_n 0, 1) := by decide +kernel
theorem dL_law_1170 : decode cL_law 1170 = .ok (.iload 4, 2) := by decide +kernel
theorem dL_law_1172 : decode cL_law 1172 = .ok (.iconst 1, 1) := by decide +kernel
theorem dL_law_1173 : decode cL_law 1173 = .ok (.iadd, 1) := by decide +kernel
theorem dL_law_1174 : decode cL_law 1174 = .ok (.iaload, 1) := by decide +kernel
theorem dL_law_1175 : decode cL_law 1175 = .ok (.aload_n 0, 1) := by decide +kernel
theorem dL_law_1176 : decode cL_law 1176 = .ok (.iload 4, 2) := by decide +kernel
theorem dL_law_1178 : decode cL_law 1178 = .ok (.iconst 2, 1) := by decide +kernel
theorem dL_law_1179 : decode cL_law 1179 = .ok (.iadd, 1) := by decide +kernel
theorem dL_law_1180 : decode cL_law 1180 = .ok (.iaload, 1) := by decide +kernel
theorem dL_law_1181 : decode cL_law 1181 = .ok (.i2l, 1) := by decide +kernel
theorem dL_law_1182 : decode cL_law 1182 = .ok (.bipush 32, 2) := by decide +kernel
theorem dL_law_1184 : decode cL_law 1184 = .ok (.lshl, 1) := by decide +kernel
theorem dL_law_1185 : decode cL_law 1185 = .ok (.aload_n 0, 1) := by decide +kernel
theorem dL_law_1186 : decode cL_law 1186 = .ok (.iload 4, 2) := by decide +kernel
theorem dL_law_1188 : decode cL_law 1188 = .ok (.iconst 3, 1) := by decide +kernel
theorem dL_law_1189 : decode cL_law 1189 = .ok (.iadd, 1) := by decide +kernel
theorem dL_law_1190 : decode cL_law 1190 = .ok (.iaload, 1) := by decide +kernel
theorem dL_law_1191 : decode cL_law 1191 = .ok (.i2l, 1) := by decide +kernel
theorem dL_law_1192 : decode cL_law 1192 = .ok (.ldc2_w 74, 3) := by decide +kernel
theorem dL_law_1195 : decode cL_law 1195 = .ok (.land, 1) := by decide +kernel
theorem dL_law_1196 : decode cL_law 1196 = .ok (.lor, 1) := by decide +kernel
theorem dL_law_1197 : decode cL_law 1197 = .ok (.invokevirtual 108, 3) := by decide +kernel
theorem dL_law_1200 : decode cL_law 1200 = .ok (.if_icmp .eq 305, 3) := by decide +kernel
theorem dL_law_1205 : decode cL_law 1205 = .ok (.aload_n 1, 1) := by decide +kernel
theorem dL_law_1206 : decode cL_law 1206 = .ok (.aload_n 0, 1) := by decide +kernel
theorem dL_law_1207 : decode cL_law 1207 = .ok (.iload 4, 2) := by decide +kernel
theorem dL_law_1209 : decode cL_law 1209 = .ok (.iconst 1, 1) := by decide +kernel
theorem dL_law_1210 : decode cL_law 1210 = .ok (.iadd, 1) := by decide +kernel
theorem dL_law_1211 : decode cL_law 1211 = .ok (.iaload, 1) := by decide +kernel
theorem dL_law_1212 : decode cL_law 1212 = .ok (.aload_n 0, 1) := by decide +kernel
theorem dL_law_1213 : decode cL_law 1213 = .ok (.iload 4, 2) := by decide +kernel
theorem dL_law_1215 : decode cL_law 1215 = .ok (.iconst 2, 1) := by decide +kernel
theorem dL_law_1216 : decode cL_law 1216 = .ok (.iadd, 1) := by decide +kernel
theorem dL_law_1217 : decode cL_law 1217 = .ok (.iaload, 1) := by decide +kernel
theorem dL_law_1218 : decode cL_law 1218 = .ok (.invokevirtual 109, 3) := by decide +kernel
theorem dL_law_1221 : decode cL_law 1221 = .ok (.aload_n 2, 1) := by decide +kernel
theorem dL_law_1222 : decode cL_law 1222 = .ok (.aload_n 0, 1) := by decide +kernel
theorem dL_law_1223 : decode cL_law 1223 = .ok (.iload 4, 2) := by decide +kernel
theorem dL_law_1225 : decode cL_law 1225 = .ok (.iconst 1, 1) := by decide +kernel
theorem dL_law_1226 : decode cL_law 1226 = .ok (.iadd, 1) := by decide +kernel
theorem dL_law_1227 : decode cL_law 1227 = .ok (.iaload, 1) := by decide +kernel
theorem dL_law_1228 : decode cL_law 1228 = .ok (.aload_n 0, 1) := by decide +kernel
theorem dL_law_1229 : decode cL_law 1229 = .ok (.iload 4, 2) := by decide +kernel
theorem dL_law_1231 : decode cL_law 1231 = .ok (.iconst 2, 1) := by decide +kernel
theorem dL_law_1232 : decode cL_law 1232 = .ok (.iadd, 1) := by decide +kernel
theorem dL_law_1233 : decode cL_law 1233 = .ok (.iaload, 1) := by decide +kernel
theorem dL_law_1234 : decode cL_law 1234 = .ok (.invokevirtual 113, 3) := by decide +kernel
theorem dL_law_1237 : decode cL_law 1237 = .ok (.lcmp, 1) := by decide +kernel
theorem dL_law_1238 : decode cL_law 1238 = .ok (.ifCond .eq 267, 3) := by decide +kernel
theorem dL_law_1243 : decode cL_law 1243 = .ok (.aload_n 1, 1) := by decide +kernel
theorem dL_law_1244 : decode cL_law 1244 = .ok (.aload_n 0, 1) := by decide +kernel
theorem dL_law_1245 : decode cL_law 1245 = .ok (.iload 4, 2) := by decide +kernel
theorem dL_law_1247 : decode cL_law 1247 = .ok (.iconst 1, 1) := by decide +kernel
theorem dL_law_1248 : decode cL_law 1248 = .ok (.iadd, 1) := by decide +kernel
theorem dL_law_1249 : decode cL_law 1249 = .ok (.iaload, 1) := by decide +kernel
theorem dL_law_1250 : decode cL_law 1250 = .ok (.aload_n 0, 1) := by decide +kernel
theorem dL_law_1251 : decode cL_law 1251 = .ok (.iload 4, 2) := by decide +kernel
theorem dL_law_1253 : decode cL_law 1253 = .ok (.iconst 2, 1) := by decide +kernel
theorem dL_law_1254 : decode cL_law 1254 = .ok (.iadd, 1) := by decide +kernel
theorem dL_law_1255 : decode cL_law 1255 = .ok (.iaload, 1) := by decide +kernel
theorem dL_law_1256 : decode cL_law 1256 = .ok (.aload_n 0, 1) := by decide +kernel
theorem dL_law_1257 : decode cL_law 1257 = .ok (.iload 4, 2) := by decide +kernel
theorem dL_law_1259 : decode cL_law 1259 = .ok (.iconst 3, 1) := by decide +kernel
theorem dL_law_1260 : decode cL_law 1260 = .ok (.iadd, 1) := by decide +kernel
theorem dL_law_1261 : decode cL_law 1261 = .ok (.iaload, 1) := by decide +kernel
theorem dL_law_1262 : decode cL_law 1262 = .ok (.invokevirtual 114, 3) := by decide +kernel
theorem dL_law_1265 : decode cL_law 1265 = .ok (.aload_n 2, 1) := by decide +kernel
theorem dL_law_1266 : decode cL_law 1266 = .ok (.aload_n 0, 1) := by decide +kernel
theorem dL_law_1267 : decode cL_law 1267 = .ok (.iload 4, 2) := by decide +kernel
theorem dL_law_1269 : decode cL_law 1269 = .ok (.iconst 1, 1) := by decide +kernel
theorem dL_law_1270 : decode cL_law 1270 = .ok (.iadd, 1) := by decide +kernel
theorem dL_law_1271 : decode cL_law 1271 = .ok (.iaload, 1) := by decide +kernel
theorem dL_law_1272 : decode cL_law 1272 = .ok (.aload_n 0, 1) := by decide +kernel
theorem dL_law_1273 : decode cL_law 1273 = .ok (.iload 4, 2) := by decide +kernel
theorem dL_law_1275 : decode cL_law 1275 = .ok (.iconst 2, 1) := by decide +kernel
theorem dL_law_1276 : decode cL_law 1276 = .ok (.iadd, 1) := by decide +kernel
theorem dL_law_1277 : decode cL_law 1277 = .ok (.iaload, 1) := by decide +kernel
theorem dL_law_1278 : decode cL_law 1278 = .ok (.aload_n 0, 1) := by decide +kernel
theorem dL_law_1279 : decode cL_law 1279 = .ok (.iload 4, 2) := by decide +kernel
theorem dL_law_1281 : decode cL_law 1281 = .ok (.iconst 3, 1) := by decide +kernel
theorem dL_law_1282 : decode cL_law 1282 = .ok (.iadd, 1) := by decide +kernel
theorem dL_law_1283 : decode cL_law 1283 = .ok (.iaload, 1) := by decide +kernel
theorem dL_law_1284 : decode cL_law 1284 = .ok (.invokevirtual 117, 3) := by decide +kernel
theorem dL_law_1287 : decode cL_law 1287 = .ok (.lcmp, 1) := by decide +kernel
theorem dL_law_1288 : decode cL_law 1288 = .ok (.ifCond .eq 217, 3) := by decide +kernel
theorem dL_law_1293 : decode cL_law 1293 = .ok (.aload_n 1, 1) := by decide +kernel
theorem dL_law_1294 : decode cL_law 1294 = .ok (.aload_n 0, 1) := by decide +kernel
theorem dL_law_1295 : decode cL_law 1295 = .ok (.iload 4, 2) := by decide +kernel
theorem dL_law_1297 : decode cL_law 1297 = .ok (.iconst 1, 1) := by decide +kernel
theorem dL_law_1298 : decode cL_law 1298 = .ok (.iadd, 1) := by decide +kernel
theorem dL_law_1299 : decode cL_law 1299 = .ok (.iaload, 1) := by decide +kernel
theorem dL_law_1300 : decode cL_law 1300 = .ok (.aload_n 0, 1) := by decide +kernel
theorem dL_law_1301 : decode cL_law 1301 = .ok (.iload 4, 2) := by decide +kernel
theorem dL_law_1303 : decode cL_law 1303 = .ok (.iconst 2, 1) := by decide +kernel
theorem dL_law_1304 : decode cL_law 1304 = .ok (.iadd, 1) := by decide +kernel
theorem dL_law_1305 : decode cL_law 1305 = .ok (.iaload, 1) := by decide +kernel
theorem dL_law_1306 : decode cL_law 1306 = .ok (.invokevirtual 118, 3) := by decide +kernel
theorem dL_law_1309 : decode cL_law 1309 = .ok (.aload_n 2, 1) := by decide +kernel
theorem dL_law_1310 : decode cL_law 1310 = .ok (.aload_n 0, 1) := by decide +kernel
theorem dL_law_1311 : decode cL_law 1311 = .ok (.iload 4, 2) := by decide +kernel
theorem dL_law_1313 : decode cL_law 1313 = .ok (.iconst 1, 1) := by decide +kernel
theorem dL_law_1314 : decode cL_law 1314 = .ok (.iadd, 1) := by decide +kernel
theorem dL_law_1315 : decode cL_law 1315 = .ok (.iaload, 1) := by decide +kernel
theorem dL_law_1316 : decode cL_law 1316 = .ok (.aload_n 0, 1) := by decide +kernel
theorem dL_law_1317 : decode cL_law 1317 = .ok (.iload 4, 2) := by decide +kernel
theorem dL_law_1319 : decode cL_law 1319 = .ok (.iconst 2, 1) := by decide +kernel
theorem dL_law_1320 : decode cL_law 1320 = .ok (.iadd, 1) := by decide +kernel
theorem dL_law_1321 : decode cL_law 1321 = .ok (.iaload, 1) := by decide +kernel
theorem dL_law_1322 : decode cL_law 1322 = .ok (.invokevirtual 121, 3) := by decide +kernel
theorem dL_law_1325 : decode cL_law 1325 = .ok (.if_icmp .eq 180, 3) := by decide +kernel
theorem dL_law_1330 : decode cL_law 1330 = .ok (.aload_n 1, 1) := by decide +kernel
theorem dL_law_1331 : decode cL_law 1331 = .ok (.aload_n 0, 1) := by decide +kernel
theorem dL_law_1332 : decode cL_law 1332 = .ok (.iload 4, 2) := by decide +kernel
theorem dL_law_1334 : decode cL_law 1334 = .ok (.iconst 1, 1) := by decide +kernel
theorem dL_law_1335 : decode cL_law 1335 = .ok (.iadd, 1) := by decide +kernel
theorem dL_law_1336 : decode cL_law 1336 = .ok (.iaload, 1) := by decide +kernel
theorem dL_law_1337 : decode cL_law 1337 = .ok (.aload_n 0, 1) := by decide +kernel
theorem dL_law_1338 : decode cL_law 1338 = .ok (.iload 4, 2) := by decide +kernel
theorem dL_law_1340 : decode cL_law 1340 = .ok (.iconst 2, 1) := by decide +kernel
theorem dL_law_1341 : decode cL_law 1341 = .ok (.iadd, 1) := by decide +kernel
theorem dL_law_1342 : decode cL_law 1342 = .ok (.iaload, 1) := by decide +kernel
theorem dL_law_1343 : decode cL_law 1343 = .ok (.i2l, 1) := by decide +kernel
theorem dL_law_1344 : decode cL_law 1344 = .ok (.bipush 32, 2) := by decide +kernel
theorem dL_law_1346 : decode cL_law 1346 = .ok (.lshl, 1) := by decide +kernel
theorem dL_law_1347 : decode cL_law 1347 = .ok (.aload_n 0, 1) := by decide +kernel
theorem dL_law_1348 : decode cL_law 1348 = .ok (.iload 4, 2) := by decide +kernel
theorem dL_law_1350 : decode cL_law 1350 = .ok (.iconst 3, 1) := by decide +kernel
theorem dL_law_1351 : decode cL_law 1351 = .ok (.iadd, 1) := by decide +kernel
theorem dL_law_1352 : decode cL_law 1352 = .ok (.iaload, 1) := by decide +kernel
theorem dL_law_1353 : decode cL_law 1353 = .ok (.i2l, 1) := by decide +kernel
theorem dL_law_1354 : decode cL_law 1354 = .ok (.ldc2_w 74, 3) := by decide +kernel
theorem dL_law_1357 : decode cL_law 1357 = .ok (.land, 1) := by decide +kernel
theorem dL_law_1358 : decode cL_law 1358 = .ok (.lor, 1) := by decide +kernel
theorem dL_law_1359 : decode cL_law 1359 = .ok (.aload_n 0, 1) := by decide +kernel
theorem dL_law_1360 : decode cL_law 1360 = .ok (.iload 4, 2) := by decide +kernel
theorem dL_law_1362 : decode cL_law 1362 = .ok (.iconst 4, 1) := by decide +kernel
theorem dL_law_1363 : decode cL_law 1363 = .ok (.iadd, 1) := by decide +kernel
theorem dL_law_1364 : decode cL_law 1364 = .ok (.iaload, 1) := by decide +kernel
theorem dL_law_1365 : decode cL_law 1365 = .ok (.i2l, 1) := by decide +kernel
theorem dL_law_1366 : decode cL_law 1366 = .ok (.bipush 32, 2) := by decide +kernel
theorem dL_law_1368 : decode cL_law 1368 = .ok (.lshl, 1) := by decide +kernel
theorem dL_law_1369 : decode cL_law 1369 = .ok (.aload_n 0, 1) := by decide +kernel
theorem dL_law_1370 : decode cL_law 1370 = .ok (.iload 4, 2) := by decide +kernel
theorem dL_law_1372 : decode cL_law 1372 = .ok (.iconst 5, 1) := by decide +kernel
theorem dL_law_1373 : decode cL_law 1373 = .ok (.iadd, 1) := by decide +kernel
theorem dL_law_1374 : decode cL_law 1374 = .ok (.iaload, 1) := by decide +kernel
theorem dL_law_1375 : decode cL_law 1375 = .ok (.i2l, 1) := by decide +kernel
theorem dL_law_1376 : decode cL_law 1376 = .ok (.ldc2_w 74, 3) := by decide +kernel
theorem dL_law_1379 : decode cL_law 1379 = .ok (.land, 1) := by decide +kernel
theorem dL_law_1380 : decode cL_law 1380 = .ok (.lor, 1) := by decide +kernel
theorem dL_law_1381 : decode cL_law 1381 = .ok (.invokevirtual 122, 3) := by decide +kernel
theorem dL_law_1384 : decode cL_law 1384 = .ok (.aload_n 2, 1) := by decide +kernel
theorem dL_law_1385 : decode cL_law 1385 = .ok (.aload_n 0, 1) := by decide +kernel
theorem dL_law_1386 : decode cL_law 1386 = .ok (.iload 4, 2) := by decide +kernel
theorem dL_law_1388 : decode cL_law 1388 = .ok (.iconst 1, 1) := by decide +kernel
theorem dL_law_1389 : decode cL_law 1389 = .ok (.iadd, 1) := by decide +kernel
theorem dL_law_1390 : decode cL_law 1390 = .ok (.iaload, 1) := by decide +kernel
theorem dL_law_1391 : decode cL_law 1391 = .ok (.aload_n 0, 1) := by decide +kernel
theorem dL_law_1392 : decode cL_law 1392 = .ok (.iload 4, 2) := by decide +kernel
theorem dL_law_1394 : decode cL_law 1394 = .ok (.iconst 2, 1) := by decide +kernel
theorem dL_law_1395 : decode cL_law 1395 = .ok (.iadd, 1) := by decide +kernel
theorem dL_law_1396 : decode cL_law 1396 = .ok (.iaload, 1) := by decide +kernel
theorem dL_law_1397 : decode cL_law 1397 = .ok (.i2l, 1) := by decide +kernel
theorem dL_law_1398 : decode cL_law 1398 = .ok (.bipush 32, 2) := by decide +kernel
theorem dL_law_1400 : decode cL_law 1400 = .ok (.lshl, 1) := by decide +kernel
theorem dL_law_1401 : decode cL_law 1401 = .ok (.aload_n 0, 1) := by decide +kernel
theorem dL_law_1402 : decode cL_law 1402 = .ok (.iload 4, 2) := by decide +kernel
theorem dL_law_1404 : decode cL_law 1404 = .ok (.iconst 3, 1) := by decide +kernel
theorem dL_law_1405 : decode cL_law 1405 = .ok (.iadd, 1) := by decide +kernel
theorem dL_law_1406 : decode cL_law 1406 = .ok (.iaload, 1) := by decide +kernel
theorem dL_law_1407 : decode cL_law 1407 = .ok (.i2l, 1) := by decide +kernel
theorem dL_law_1408 : decode cL_law 1408 = .ok (.ldc2_w 74, 3) := by decide +kernel
theorem dL_law_1411 : decode cL_law 1411 = .ok (.land, 1) := by decide +kernel
theorem dL_law_1412 : decode cL_law 1412 = .ok (.lor, 1) := by decide +kernel
theorem dL_law_1413 : decode cL_law 1413 = .ok (.aload_n 0, 1) := by decide +kernel
theorem dL_law_1414 : decode cL_law 1414 = .ok (.iload 4, 2) := by decide +kernel
theorem dL_law_1416 : decode cL_law 1416 = .ok (.iconst 4, 1) := by decide +kernel
theorem dL_law_1417 : decode cL_law 1417 = .ok (.iadd, 1) := by decide +kernel
theorem dL_law_1418 : decode cL_law 1418 = .ok (.iaload, 1) := by decide +kernel
theorem dL_law_1419 : decode cL_law 1419 = .ok (.i2l, 1) := by decide +kernel
theorem dL_law_1420 : decode cL_law 1420 = .ok (.bipush 32, 2) := by decide +kernel
theorem dL_law_1422 : decode cL_law 1422 = .ok (.lshl, 1) := by decide +kernel
theorem dL_law_1423 : decode cL_law 1423 = .ok (.aload_n 0, 1) := by decide +kernel
theorem dL_law_1424 : decode cL_law 1424 = .ok (.iload 4, 2) := by decide +kernel
theorem dL_law_1426 : decode cL_law 1426 = .ok (.iconst 5, 1) := by decide +kernel
theorem dL_law_1427 : decode cL_law 1427 = .ok (.iadd, 1) := by decide +kernel
theorem dL_law_1428 : decode cL_law 1428 = .ok (.iaload, 1) := by decide +kernel
theorem dL_law_1429 : decode cL_law 1429 = .ok (.i2l, 1) := by decide +kernel
theorem dL_law_1430 : decode cL_law 1430 = .ok (.ldc2_w 74, 3) := by decide +kernel
theorem dL_law_1433 : decode cL_law 1433 = .ok (.land, 1) := by decide +kernel
theorem dL_law_1434 : decode cL_law 1434 = .ok (.lor, 1) := by decide +kernel
theorem dL_law_1435 : decode cL_law 1435 = .ok (.invokevirtual 126, 3) := by decide +kernel
theorem dL_law_1438 : decode cL_law 1438 = .ok (.if_icmp .eq 67, 3) := by decide +kernel
theorem dL_law_1443 : decode cL_law 1443 = .ok (.aload_n 1, 1) := by decide +kernel
theorem dL_law_1444 : decode cL_law 1444 = .ok (.aload_n 0, 1) := by decide +kernel
theorem dL_law_1445 : decode cL_law 1445 = .ok (.iload 4, 2) := by decide +kernel
theorem dL_law_1447 : decode cL_law 1447 = .ok (.iconst 1, 1) := by decide +kernel
theorem dL_law_1448 : decode cL_law 1448 = .ok (.iadd, 1) := by decide +kernel
theorem dL_law_1449 : decode cL_law 1449 = .ok (.iaload, 1) := by decide +kernel
theorem dL_law_1450 : decode cL_law 1450 = .ok (.invokevirtual 127, 3) := by decide +kernel
theorem dL_law_1453 : decode cL_law 1453 = .ok (.aload_n 2, 1) := by decide +kernel
theorem dL_law_1454 : decode cL_law 1454 = .ok (.aload_n 0, 1) := by decide +kernel
theorem dL_law_1455 : decode cL_law 1455 = .ok (.iload 4, 2) := by decide +kernel
theorem dL_law_1457 : decode cL_law 1457 = .ok (.iconst 1, 1) := by decide +kernel
theorem dL_law_1458 : decode cL_law 1458 = .ok (.iadd, 1) := by decide +kernel
theorem dL_law_1459 : decode cL_law 1459 = .ok (.iaload, 1) := by decide +kernel
theorem dL_law_1460 : decode cL_law 1460 = .ok (.invokevirtual 131, 3) := by decide +kernel
theorem dL_law_1463 : decode cL_law 1463 = .ok (.if_icmp .eq 42, 3) := by decide +kernel
theorem dL_law_1468 : decode cL_law 1468 = .ok (.aload_n 1, 1) := by decide +kernel
theorem dL_law_1469 : decode cL_law 1469 = .ok (.aload_n 0, 1) := by decide +kernel
theorem dL_law_1470 : decode cL_law 1470 = .ok (.iload 4, 2) := by decide +kernel
theorem dL_law_1472 : decode cL_law 1472 = .ok (.iconst 1, 1) := by decide +kernel
theorem dL_law_1473 : decode cL_law 1473 = .ok (.iadd, 1) := by decide +kernel
theorem dL_law_1474 : decode cL_law 1474 = .ok (.iaload, 1) := by decide +kernel
theorem dL_law_1475 : decode cL_law 1475 = .ok (.aload_n 0, 1) := by decide +kernel
theorem dL_law_1476 : decode cL_law 1476 = .ok (.iload 4, 2) := by decide +kernel
theorem dL_law_1478 : decode cL_law 1478 = .ok (.iconst 2, 1) := by decide +kernel
theorem dL_law_1479 : decode cL_law 1479 = .ok (.iadd, 1) := by decide +kernel
theorem dL_law_1480 : decode cL_law 1480 = .ok (.iaload, 1) := by decide +kernel
theorem dL_law_1481 : decode cL_law 1481 = .ok (.invokevirtual 132, 3) := by decide +kernel
theorem dL_law_1484 : decode cL_law 1484 = .ok (.aload_n 2, 1) := by decide +kernel
theorem dL_law_1485 : decode cL_law 1485 = .ok (.aload_n 0, 1) := by decide +kernel
theorem dL_law_1486 : decode cL_law 1486 = .ok (.iload 4, 2) := by decide +kernel
theorem dL_law_1488 : decode cL_law 1488 = .ok (.iconst 1, 1) := by decide +kernel
theorem dL_law_1489 : decode cL_law 1489 = .ok (.iadd, 1) := by decide +kernel
theorem dL_law_1490 : decode cL_law 1490 = .ok (.iaload, 1) := by decide +kernel
theorem dL_law_1491 : decode cL_law 1491 = .ok (.aload_n 0, 1) := by decide +kernel
theorem dL_law_1492 : decode cL_law 1492 = .ok (.iload 4, 2) := by decide +kernel
theorem dL_law_1494 : decode cL_law 1494 = .ok (.iconst 2, 1) := by decide +kernel
theorem dL_law_1495 : decode cL_law 1495 = .ok (.iadd, 1) := by decide +kernel
theorem dL_law_1496 : decode cL_law 1496 = .ok (.iaload, 1) := by decide +kernel
theorem dL_law_1497 : decode cL_law 1497 = .ok (.invokevirtual 136, 3) := by decide +kernel
theorem dL_law_1500 : decode cL_law 1500 = .ok (.if_icmp .eq 5, 3) := by decide +kernel
theorem dL_law_1505 : decode cL_law 1505 = .ok (.iinc 4 8, 3) := by decide +kernel
theorem dL_law_1508 : decode cL_law 1508 = .ok (.goto (-1475), 3) := by decide +kernel
set_option maxRecDepth 20000 in
theorem lc_mark {g : xG} {b N S m ob n i nx cu su : Nat} {xs : Nat → Int32} {h : xHp} (hN : N < 2 ^ 31) (hi : i + 8 ≤ N) (hc : cu + 2 ≤ 601024) (hs : su + 12 ≤ 7293000) (P : CtW g M_L_mark [(0, 21, 24, 13)] [.ref S, .int (xs (i + 1)), .int (xs (i + 2)), .int (xs (i + 3)), .int (xs (i + 4)), .ref ob] h nx (fun r h1 n1 => ∃ q, q < 2 ∧ r = some (.int (nI q)) ∧ (∃ fs, h1 m = some (xo 11 fs)) ∧ Ct g M_X10_mark [.ref m, .int (xs (i + 1)), .int (xs (i + 2)), .int (xs (i + 3)), .int (xs (i + 4))] h1 n1 (fun r2 h2 n2 => ∃ v : Nat, v < 2 ∧ r2 = some (.int (nI v)) ∧ (∃ fs, h2 m = some (xo 11 fs)) ∧ Ct g M_X10_thrown [.ref m] h2 n2 (fun r3 h3 n3 => r3 = some (.int (nI q)) ∧ Inv h3 S m ob n ∧ (q = 0 → ∃ f, h3 ob = some (xla 1 f) ∧ f 0 = lN v))))) (k : ∀ h2 n2, Inv h2 S m ob n → BlkY g M_L_law (KL g b N xs) lw_Z 1505 [(0, .ref b), (1, .ref S), (2, .ref m), (3, .ref ob), (4, .int (nI i))] [] h2 n2 (cu + 2) (su + 12)) : BlkY g M_L_law (KL g b N xs) lw_Z 148 [(0, .ref b), (1, .ref S), (2, .ref m), (3, .ref ob), (4, .int (nI i))] [] h nx cu su := by
  refine y_aload_n 1 dL_law_148 rfl rfl ?_
  refine y_aload_n 0 dL_law_149 rfl rfl ?_
  refine y_iload 4 dL_law_150 rfl ?_
  refine y_iconst (v := (nI 1)) dL_law_152 rfl ?_
  refine y_iaddN dL_law_153 ?_
  refine y_sld (fun _ _ _ z => z.2.1) dL_law_154 rfl (by omega) hN ?_
  refine y_aload_n 0 dL_law_155 rfl rfl ?_
  refine y_iload 4 dL_law_156 rfl ?_
  refine y_iconst (v := (nI 2)) dL_law_158 rfl ?_
  refine y_iaddN dL_law_159 ?_
  refine y_sld (fun _ _ _ z => z.2.1) dL_law_160 rfl (by omega) hN ?_
  refine y_aload_n 0 dL_law_161 rfl rfl ?_
  refine y_iload 4 dL_law_162 rfl ?_
  refine y_iconst (v := (nI 3)) dL_law_164 rfl ?_
  refine y_iaddN dL_law_165 ?_
  refine y_sld (fun _ _ _ z => z.2.1) dL_law_166 rfl (by omega) hN ?_
  refine y_aload_n 0 dL_law_167 rfl rfl ?_
  refine y_iload 4 dL_law_168 rfl ?_
  refine y_iconst (v := (nI 4)) dL_law_170 rfl ?_
  refine y_iaddN dL_law_171 ?_
  refine y_sld (fun _ _ _ z => z.2.1) dL_law_172 rfl (by omega) hN ?_
  refine y_aload_n 3 dL_law_173 rfl rfl ?_
  refine y_callSW (M2 := M_L_mark) (hh := [(0, 21, 24, 13)]) (n := 6) (As := [.ref S, .int (xs (i + 1)), .int (xs (i + 2)), .int (xs (i + 3)), .int (xs (i + 4)), .ref ob]) (fun _ _ _ z => z.2.2.1) (wl4 wM_L_38 ws_L_mark wI_StateSharesLaw wW_mark) (by decide +kernel) (by decide) rfl rfl (Nat.le_of_ble_eq_true rfl) dL_law_174 (by show cu + 2 ≤ 601024; omega) (by show su + 12 ≤ 7293000; omega) (Ct.impW P (fun r h1 n1 V => ?_))
  obtain ⟨q, hq, rfl, ⟨fs2, hm⟩, V⟩ := V
  show BlkY g M_L_law (KL g b N xs) lw_Z 177 [(0, .ref b), (1, .ref S), (2, .ref m), (3, .ref ob), (4, .int (nI i))] [.int (nI q)] h1 n1 (cu + 2) (su + 12)
  refine y_istore (L' := [(5, .int (nI q)), (0, .ref b), (1, .ref S), (2, .ref m), (3, .ref ob), (4, .int (nI i))]) dL_law_177 (by decide) rfl ?_
  refine y_aload_n 3 dL_law_179 rfl rfl ?_
  refine y_aload_n 1 dL_law_180 rfl rfl ?_
  refine y_iload 5 dL_law_181 rfl ?_
  refine y_iconst (v := (nI 1)) dL_law_183 rfl ?_
  refine y_iaddN dL_law_184 ?_
  refine y_sld (fun _ _ _ z => z.2.1) dL_law_185 rfl (by omega) hN ?_
  refine y_aload_n 1 dL_law_186 rfl rfl ?_
  refine y_iload 5 dL_law_187 rfl ?_
  refine y_iconst (v := (nI 2)) dL_law_189 rfl ?_
  refine y_iaddN dL_law_190 ?_
  refine y_sld (fun _ _ _ z => z.2.1) dL_law_191 rfl (by omega) hN ?_
  refine y_aload_n 1 dL_law_192 rfl rfl ?_
  refine y_iload 5 dL_law_193 rfl ?_
  refine y_iconst (v := (nI 3)) dL_law_195 rfl ?_
  refine y_iaddN dL_law_196 ?_
  refine y_sld (fun _ _ _ z => z.2.1) dL_law_197 rfl (by omega) hN ?_
  refine y_aload_n 1 dL_law_198 rfl rfl ?_
  refine y_iload 5 dL_law_199 rfl ?_
  refine y_iconst (v := (nI 4)) dL_law_201 rfl ?_
  refine y_iaddN dL_law_202 ?_
  refine y_sld (fun _ _ _ z => z.2.1) dL_law_203 rfl (by omega) hN ?_
  refine y_callV (M2 := M_X10_mark) (ci := 11) (n := 4) (As := [.int (xs (i + 1)), .int (xs (i + 2)), .int (xs (i + 3)), .int (xs (i + 4))]) rfl (wl5 wM_L_41 wi_X10_mark wS_X10_mark wI_StateSharesModel wc_X10_mark) (by decide +kernel) (by decide) rfl rfl (Nat.le_of_ble_eq_true rfl) dL_law_204 hm (by show cu + 2 + 0 ≤ 601024; omega) (by show su + 12 + 0 ≤ 7293000; omega) (Ct.imp V (fun r h2 n2 V => ?_))
  obtain ⟨v, hv, rfl, ⟨fs3, hm3⟩, V⟩ := V
  show BlkY g M_L_law (KL g b N xs) lw_Z 207 [(5, .int (nI q)), (0, .ref b), (1, .ref S), (2, .ref m), (3, .ref ob), (4, .int (nI i))] [.int (nI v)] h2 n2 (cu + 2) (su + 12)
  refine y_istore (L' := [(6, .int (nI v)), (5, .int (nI q)), (0, .ref b), (1, .ref S), (2, .ref m), (3, .ref ob), (4, .int (nI i))]) dL_law_207 (by decide) rfl ?_
  refine y_aload_n 4 dL_law_209 rfl rfl ?_
  refine y_callV (M2 := M_X10_thrown) (ci := 11) (n := 0) (As := []) rfl (wl5 wM_L_42 wi_X10_thrown wS_X10_thrown wI_StateSharesModel wc_X10_thrown) (by decide +kernel) (by decide) rfl rfl (Nat.le_of_ble_eq_true rfl) dL_law_210 hm3 (by show cu + 2 + 0 ≤ 601024; omega) (by show su + 12 + 0 ≤ 7293000; omega) (Ct.imp V (fun r h3 n3 V => ?_))
  obtain ⟨rfl, hV, hf⟩ := V
  show BlkY g M_L_law (KL g b N xs) lw_Z 213 [(6, .int (nI v)), (5, .int (nI q)), (0, .ref b), (1, .ref S), (2, .ref m), (3, .ref ob), (4, .int (nI i))] [.int (nI q)] h3 n3 (cu + 2) (su + 12)
  refine y_iload 1 dL_law_213 rfl ?_
  refine y_icmp_eq (tgt := 220) dL_law_215 (by decide) (fun _ => ?_) (fun c => absurd rfl c)
  refine y_iload 1 dL_law_220 rfl ?_
  refine y_if_neN (tgt := 244) dL_law_222 (by decide) (by omega) (fun _ => y_goto (tgt := 1505) dL_law_244 (by decide) (BlkY.sub [2, 3, 4, 5, 6] rfl (k h3 n3 hV))) (fun c => ?_)
  obtain ⟨f, hob, hfv⟩ := hf c
  refine y_aload_n 5 dL_law_225 rfl rfl ?_
  refine y_iconst (v := (nI 0)) dL_law_226 rfl ?_
  refine y_lald dL_law_227 hob (j := 0) rfl (by decide) (by decide) ?_
  rw [hfv]
  refine y_iload 0 dL_law_228 rfl ?_
  refine y_if_eqN (tgt := 237) dL_law_230 (by decide) (by omega) (fun c => ?_) (fun c => ?_)
  · subst c
    refine y_lconst (v := (lN 0)) dL_law_237 rfl ?_
    refine y_lcmp dL_law_238 ?_
    exact y_if_eq (tgt := 244) dL_law_239 (by decide) (fun _ => y_goto (tgt := 1505) dL_law_244 (by decide) (BlkY.sub [2, 3, 4, 5, 6] rfl (k h3 n3 hV))) (fun c => absurd (lcmp_self _) c)
  · have e : v = 1 := by omega
    subst e
    refine y_lconst (v := (lN 1)) dL_law_233 rfl ?_
    refine y_goto (tgt := 238) dL_law_234 (by decide) ?_
    refine y_lcmp dL_law_238 ?_
    exact y_if_eq (tgt := 244) dL_law_239 (by decide) (fun _ => y_goto (tgt := 1505) dL_law_244 (by decide) (BlkY.sub [2, 3, 4, 5, 6] rfl (k h3 n3 hV))) (fun c => absurd (lcmp_self _) c)
set_option maxRecDepth 20000 in
theorem lc_unit {g : xG} {b N S m ob n i nx cu su : Nat} {xs : Nat → Int32} {h : xHp} {fs : List Value} (hN : N < 2 ^ 31) (hi : i + 8 ≤ N) (hc : cu + 2 ≤ 601024) (hs : su + 12 ≤ 7293000) (hS : h S = some (xo 10 fs)) (P : PairI g M_X9_unit M_X10_unit [.int (xs (i + 1))] S m ob n h nx) (k : ∀ h2, Inv h2 S m ob n → BlkY g M_L_law (KL g b N xs) lw_Z 1505 [(0, .ref b), (1, .ref S), (2, .ref m), (3, .ref ob), (4, .int (nI i))] [] h2 nx cu su) : BlkY g M_L_law (KL g b N xs) lw_Z 247 [(0, .ref b), (1, .ref S), (2, .ref m), (3, .ref ob), (4, .int (nI i))] [] h nx cu su := by
  refine y_aload_n 1 dL_law_247 rfl rfl ?_
  refine y_aload_n 0 dL_law_248 rfl rfl ?_
  refine y_iload 4 dL_law_249 rfl ?_
  refine y_iconst (v := (nI 1)) dL_law_251 rfl ?_
  refine y_iaddN dL_law_252 ?_
  refine y_sld (fun _ _ _ z => z.2.1) dL_law_253 rfl (by omega) hN ?_
  refine y_callV (M2 := M_X9_unit) (ci := 10) (n := 1) (As := [.int (xs (i + 1))]) rfl (wl5 wM_L_46 wi_X9_unit wS_X9_unit wI_StateShares wc_X9_unit) (by decide +kernel) (by decide) rfl rfl (Nat.le_of_ble_eq_true rfl) dL_law_254 hS (by show cu + 0 ≤ 601024; omega) (by show su + 0 ≤ 7293000; omega) (Ct.imp P (fun r h1 n1 V => ?_))
  obtain ⟨v, rfl, ⟨fs2, hm⟩, V⟩ := V
  show BlkY g M_L_law (KL g b N xs) lw_Z 257 [(0, .ref b), (1, .ref S), (2, .ref m), (3, .ref ob), (4, .int (nI i))] [.int v] h1 n1 cu su
  refine y_aload_n 2 dL_law_257 rfl rfl ?_
  refine y_aload_n 0 dL_law_258 rfl rfl ?_
  refine y_iload 4 dL_law_259 rfl ?_
  refine y_iconst (v := (nI 1)) dL_law_261 rfl ?_
  refine y_iaddN dL_law_262 ?_
  refine y_sld (fun _ _ _ z => z.2.1) dL_law_263 rfl (by omega) hN ?_
  refine y_callV (M2 := M_X10_unit) (ci := 11) (n := 1) (As := [.int (xs (i + 1))]) rfl (wl5 wM_L_50 wi_X10_unit wS_X10_unit wI_StateSharesModel wc_X10_unit) (by decide +kernel) (by decide) rfl rfl (Nat.le_of_ble_eq_true rfl) dL_law_264 hm (by show cu + 0 ≤ 601024; omega) (by show su + 0 ≤ 7293000; omega) (Ct.imp V (fun r h2 n2 V => ?_))
  obtain ⟨rfl, hn2, hV⟩ := V
  subst hn2
  show BlkY g M_L_law (KL g b N xs) lw_Z 267 [(0, .ref b), (1, .ref S), (2, .ref m), (3, .ref ob), (4, .int (nI i))] [.int v, .int v] h2 n2 cu su
  exact y_icmp_eq (tgt := 1505) dL_law_267 (by decide) (fun _ => k h2 hV) (fun c => absurd rfl c)
set_option maxRecDepth 20000 in
theorem lc_grade {g : xG} {b N S m ob n i nx cu su : Nat} {xs : Nat → Int32} {h : xHp} {fs : List Value} (hN : N < 2 ^ 31) (hi : i + 8 ≤ N) (hc : cu + 2 ≤ 601024) (hs : su + 12 ≤ 7293000) (hS : h S = some (xo 10 fs)) (P : PairI g M_X9_grade M_X10_grade [] S m ob n h nx) (k : ∀ h2, Inv h2 S m ob n → BlkY g M_L_law (KL g b N xs) lw_Z 1505 [(0, .ref b), (1, .ref S), (2, .ref m), (3, .ref ob), (4, .int (nI i))] [] h2 nx cu su) : BlkY g M_L_law (KL g b N xs) lw_Z 272 [(0, .ref b), (1, .ref S), (2, .ref m), (3, .ref ob), (4, .int (nI i))] [] h nx cu su := by
  refine y_aload_n 1 dL_law_272 rfl rfl ?_
  refine y_callV (M2 := M_X9_grade) (ci := 10) (n := 0) (As := []) rfl (wl5 wM_L_51 wi_X9_grade wS_X9_grade wI_StateShares wc_X9_grade) (by decide +kernel) (by decide) rfl rfl (Nat.le_of_ble_eq_true rfl) dL_law_273 hS (by show cu + 0 ≤ 601024; omega) (by show su + 0 ≤ 7293000; omega) (Ct.imp P (fun r h1 n1 V => ?_))
  obtain ⟨v, rfl, ⟨fs2, hm⟩, V⟩ := V
  show BlkY g M_L_law (KL g b N xs) lw_Z 276 [(0, .ref b), (1, .ref S), (2, .ref m), (3, .ref ob), (4, .int (nI i))] [.int v] h1 n1 cu su
  refine y_aload_n 2 dL_law_276 rfl rfl ?_
  refine y_callV (M2 := M_X10_grade) (ci := 11) (n := 0) (As := []) rfl (wl5 wM_L_54 wi_X10_grade wS_X10_grade wI_StateSharesModel wc_X10_grade) (by decide +kernel) (by decide) rfl rfl (Nat.le_of_ble_eq_true rfl) dL_law_277 hm (by show cu + 0 ≤ 601024; omega) (by show su + 0 ≤ 7293000; omega) (Ct.imp V (fun r h2 n2 V => ?_))
  obtain ⟨rfl, hn2, hV⟩ := V
  subst hn2
  show BlkY g M_L_law (KL g b N xs) lw_Z 280 [(0, .ref b), (1, .ref S), (2, .ref m), (3, .ref ob), (4, .int (nI i))] [.int v, .int v] h2 n2 cu su
  exact y_icmp_eq (tgt := 1505) dL_law_280 (by decide) (fun _ => k h2 hV) (fun c => absurd rfl c)
set_option maxRecDepth 20000 in
theorem lc_graded {g : xG} {b N S m ob n i nx cu su : Nat} {xs : Nat → Int32} {h : xHp} {fs : List Value} (hN : N < 2 ^ 31) (hi : i + 8 ≤ N) (hc : cu + 2 ≤ 601024) (hs : su + 12 ≤ 7293000) (hS : h S = some (xo 10 fs)) (P : PairI g M_X9_graded M_X10_graded [.int (xs (i + 1)), .int (xs (i + 2))] S m ob n h nx) (k : ∀ h2, Inv h2 S m ob n → BlkY g M_L_law (KL g b N xs) lw_Z 1505 [(0, .ref b), (1, .ref S), (2, .ref m), (3, .ref ob), (4, .int (nI i))] [] h2 nx cu su) : BlkY g M_L_law (KL g b N xs) lw_Z 285 [(0, .ref b), (1, .ref S), (2, .ref m), (3, .ref ob), (4, .int (nI i))] [] h nx cu su := by
  refine y_aload_n 1 dL_law_285 rfl rfl ?_
  refine y_aload_n 0 dL_law_286 rfl rfl ?_
  refine y_iload 4 dL_law_287 rfl ?_
  refine y_iconst (v := (nI 1)) dL_law_289 rfl ?_
  refine y_iaddN dL_law_290 ?_
  refine y_sld (fun _ _ _ z => z.2.1) dL_law_291 rfl (by omega) hN ?_
  refine y_aload_n 0 dL_law_292 rfl rfl ?_
  refine y_iload 4 dL_law_293 rfl ?_
  refine y_iconst (v := (nI 2)) dL_law_295 rfl ?_
  refine y_iaddN dL_law_296 ?_
  refine y_sld (fun _ _ _ z => z.2.1) dL_law_297 rfl (by omega) hN ?_
  refine y_callV (M2 := M_X9_graded) (ci := 10) (n := 2) (As := [.int (xs (i + 1)), .int (xs (i + 2))]) rfl (wl5 wM_L_55 wi_X9_graded wS_X9_graded wI_StateShares wc_X9_graded) (by decide +kernel) (by decide) rfl rfl (Nat.le_of_ble_eq_true rfl) dL_law_298 hS (by show cu + 0 ≤ 601024; omega) (by show su + 0 ≤ 7293000; omega) (Ct.imp P (fun r h1 n1 V => ?_))
  obtain ⟨v, rfl, ⟨fs2, hm⟩, V⟩ := V
  show BlkY g M_L_law (KL g b N xs) lw_Z 301 [(0, .ref b), (1, .ref S), (2, .ref m), (3, .ref ob), (4, .int (nI i))] [.int v] h1 n1 cu su
  refine y_aload_n 2 dL_law_301 rfl rfl ?_
  refine y_aload_n 0 dL_law_302 rfl rfl ?_
  refine y_iload 4 dL_law_303 rfl ?_
  refine y_iconst (v := (nI 1)) dL_law_305 rfl ?_
  refine y_iaddN dL_law_306 ?_
  refine y_sld (fun _ _ _ z => z.2.1) dL_law_307 rfl (by omega) hN ?_
  refine y_aload_n 0 dL_law_308 rfl rfl ?_
  refine y_iload 4 dL_law_309 rfl ?_
  refine y_iconst (v := (nI 2)) dL_law_311 rfl ?_
  refine y_iaddN dL_law_312 ?_
  refine y_sld (fun _ _ _ z => z.2.1) dL_law_313 rfl (by omega) hN ?_
  refine y_callV (M2 := M_X10_graded) (ci := 11) (n := 2) (As := [.int (xs (i + 1)), .int (xs (i + 2))]) rfl (wl5 wM_L_58 wi_X10_graded wS_X10_graded wI_StateSharesModel wc_X10_graded) (by decide +kernel) (by decide) rfl rfl (Nat.le_of_ble_eq_true rfl) dL_law_314 hm (by show cu + 0 ≤ 601024; omega) (by show su + 0 ≤ 7293000; omega) (Ct.imp V (fun r h2 n2 V => ?_))
  obtain ⟨rfl, hn2, hV⟩ := V
  subst hn2
  show BlkY g M_L_law (KL g b N xs) lw_Z 317 [(0, .ref b), (1, .ref S), (2, .ref m), (3, .ref ob), (4, .int (nI i))] [.int v, .int v] h2 n2 cu su
  exact y_icmp_eq (tgt := 1505) dL_law_317 (by decide) (fun _ => k h2 hV) (fun c => absurd rfl c)
set_option maxRecDepth 20000 in
theorem lc_count {g : xG} {b N S m ob n i nx cu su : Nat} {xs : Nat → Int32} {h : xHp} (hN : N < 2 ^ 31) (hi : i + 8 ≤ N) (hc : cu + 2 ≤ 601024) (hs : su + 12 ≤ 7293000) (P : CtW g M_L_count [(0, 10, 13, 13)] [.ref S, .int (xs (i + 1)), .int (xs (i + 2)), .ref ob] h nx (fun r h1 n1 => ∃ q, q < 2 ∧ r = some (.int (nI q)) ∧ (∃ fs, h1 m = some (xo 11 fs)) ∧ Ct g M_X10_count [.ref m, .int (xs (i + 1)), .int (xs (i + 2))] h1 n1 (fun r2 h2 n2 => ∃ v : Int32, r2 = some (.int v) ∧ (∃ fs, h2 m = some (xo 11 fs)) ∧ Ct g M_X10_thrown [.ref m] h2 n2 (fun r3 h3 n3 => r3 = some (.int (nI q)) ∧ Inv h3 S m ob n ∧ (q = 0 → ∃ f, h3 ob = some (xla 1 f) ∧ f 0 = v.toInt64))))) (k : ∀ h2 n2, Inv h2 S m ob n → BlkY g M_L_law (KL g b N xs) lw_Z 1505 [(0, .ref b), (1, .ref S), (2, .ref m), (3, .ref ob), (4, .int (nI i))] [] h2 n2 (cu + 2) (su + 12)) : BlkY g M_L_law (KL g b N xs) lw_Z 322 [(0, .ref b), (1, .ref S), (2, .ref m), (3, .ref ob), (4, .int (nI i))] [] h nx cu su := by
  refine y_aload_n 1 dL_law_322 rfl rfl ?_
  refine y_aload_n 0 dL_law_323 rfl rfl ?_
  refine y_iload 4 dL_law_324 rfl ?_
  refine y_iconst (v := (nI 1)) dL_law_326 rfl ?_
  refine y_iaddN dL_law_327 ?_
  refine y_sld (fun _ _ _ z => z.2.1) dL_law_328 rfl (by omega) hN ?_
  refine y_aload_n 0 dL_law_329 rfl rfl ?_
  refine y_iload 4 dL_law_330 rfl ?_
  refine y_iconst (v := (nI 2)) dL_law_332 rfl ?_
  refine y_iaddN dL_law_333 ?_
  refine y_sld (fun _ _ _ z => z.2.1) dL_law_334 rfl (by omega) hN ?_
  refine y_aload_n 3 dL_law_335 rfl rfl ?_
  refine y_callSW (M2 := M_L_count) (hh := [(0, 10, 13, 13)]) (n := 4) (As := [.ref S, .int (xs (i + 1)), .int (xs (i + 2)), .ref ob]) (fun _ _ _ z => z.2.2.1) (wl4 wM_L_59 ws_L_count wI_StateSharesLaw wW_count) (by decide +kernel) (by decide) rfl rfl (Nat.le_of_ble_eq_true rfl) dL_law_336 (by show cu + 2 ≤ 601024; omega) (by show su + 12 ≤ 7293000; omega) (Ct.impW P (fun r h1 n1 V => ?_))
  obtain ⟨q, hq, rfl, ⟨fs2, hm⟩, V⟩ := V
  show BlkY g M_L_law (KL g b N xs) lw_Z 339 [(0, .ref b), (1, .ref S), (2, .ref m), (3, .ref ob), (4, .int (nI i))] [.int (nI q)] h1 n1 (cu + 2) (su + 12)
  refine y_istore (L' := [(5, .int (nI q)), (0, .ref b), (1, .ref S), (2, .ref m), (3, .ref ob), (4, .int (nI i))]) dL_law_339 (by decide) rfl ?_
  refine y_aload_n 3 dL_law_341 rfl rfl ?_
  refine y_aload_n 1 dL_law_342 rfl rfl ?_
  refine y_iload 5 dL_law_343 rfl ?_
  refine y_iconst (v := (nI 1)) dL_law_345 rfl ?_
  refine y_iaddN dL_law_346 ?_
  refine y_sld (fun _ _ _ z => z.2.1) dL_law_347 rfl (by omega) hN ?_
  refine y_aload_n 1 dL_law_348 rfl rfl ?_
  refine y_iload 5 dL_law_349 rfl ?_
  refine y_iconst (v := (nI 2)) dL_law_351 rfl ?_
  refine y_iaddN dL_law_352 ?_
  refine y_sld (fun _ _ _ z => z.2.1) dL_law_353 rfl (by omega) hN ?_
  refine y_callV (M2 := M_X10_count) (ci := 11) (n := 2) (As := [.int (xs (i + 1)), .int (xs (i + 2))]) rfl (wl5 wM_L_62 wi_X10_count wS_X10_count wI_StateSharesModel wc_X10_count) (by decide +kernel) (by decide) rfl rfl (Nat.le_of_ble_eq_true rfl) dL_law_354 hm (by show cu + 2 + 0 ≤ 601024; omega) (by show su + 12 + 0 ≤ 7293000; omega) (Ct.imp V (fun r h2 n2 V => ?_))
  obtain ⟨v, rfl, ⟨fs3, hm3⟩, V⟩ := V
  show BlkY g M_L_law (KL g b N xs) lw_Z 357 [(5, .int (nI q)), (0, .ref b), (1, .ref S), (2, .ref m), (3, .ref ob), (4, .int (nI i))] [.int v] h2 n2 (cu + 2) (su + 12)
  refine y_istore (L' := [(6, .int v), (5, .int (nI q)), (0, .ref b), (1, .ref S), (2, .ref m), (3, .ref ob), (4, .int (nI i))]) dL_law_357 (by decide) rfl ?_
  refine y_aload_n 4 dL_law_359 rfl rfl ?_
  refine y_callV (M2 := M_X10_thrown) (ci := 11) (n := 0) (As := []) rfl (wl5 wM_L_42 wi_X10_thrown wS_X10_thrown wI_StateSharesModel wc_X10_thrown) (by decide +kernel) (by decide) rfl rfl (Nat.le_of_ble_eq_true rfl) dL_law_360 hm3 (by show cu + 2 + 0 ≤ 601024; omega) (by show su + 12 + 0 ≤ 7293000; omega) (Ct.imp V (fun r h3 n3 V => ?_))
  obtain ⟨rfl, hV, hf⟩ := V
  show BlkY g M_L_law (KL g b N xs) lw_Z 363 [(6, .int v), (5, .int (nI q)), (0, .ref b), (1, .ref S), (2, .ref m), (3, .ref ob), (4, .int (nI i))] [.int (nI q)] h3 n3 (cu + 2) (su + 12)
  refine y_iload 1 dL_law_363 rfl ?_
  refine y_icmp_eq (tgt := 370) dL_law_365 (by decide) (fun _ => ?_) (fun c => absurd rfl c)
  refine y_iload 1 dL_law_370 rfl ?_
  refine y_if_neN (tgt := 387) dL_law_372 (by decide) (by omega) (fun _ => y_goto (tgt := 1505) dL_law_387 (by decide) (BlkY.sub [2, 3, 4, 5, 6] rfl (k h3 n3 hV))) (fun c => ?_)
  obtain ⟨f, hob, hfv⟩ := hf c
  refine y_aload_n 5 dL_law_375 rfl rfl ?_
  refine y_iconst (v := (nI 0)) dL_law_376 rfl ?_
  refine y_lald dL_law_377 hob (j := 0) rfl (by decide) (by decide) ?_
  rw [hfv]
  refine y_iload 0 dL_law_378 rfl ?_
  refine y_i2l dL_law_380 ?_
  refine y_lcmp dL_law_381 ?_
  exact y_if_eq (tgt := 387) dL_law_382 (by decide) (fun _ => y_goto (tgt := 1505) dL_law_387 (by decide) (BlkY.sub [2, 3, 4, 5, 6] rfl (k h3 n3 hV))) (fun c => absurd (lcmp_self _) c)
set_option maxRecDepth 20000 in
theorem lc_least {g : xG} {b N S m ob n i nx cu su : Nat} {xs : Nat → Int32} {h : xHp} {fs : List Value} (hN : N < 2 ^ 31) (hi : i + 8 ≤ N) (hc : cu + 2 ≤ 601024) (hs : su + 12 ≤ 7293000) (hS : h S = some (xo 10 fs)) (P : PairI g M_X9_least M_X10_least [.int (xs (i + 1))] S m ob n h nx) (k : ∀ h2, Inv h2 S m ob n → BlkY g M_L_law (KL g b N xs) lw_Z 1505 [(0, .ref b), (1, .ref S), (2, .ref m), (3, .ref ob), (4, .int (nI i))] [] h2 nx cu su) : BlkY g M_L_law (KL g b N xs) lw_Z 390 [(0, .ref b), (1, .ref S), (2, .ref m), (3, .ref ob), (4, .int (nI i))] [] h nx cu su := by
  refine y_aload_n 1 dL_law_390 rfl rfl ?_
  refine y_aload_n 0 dL_law_391 rfl rfl ?_
  refine y_iload 4 dL_law_392 rfl ?_
  refine y_iconst (v := (nI 1)) dL_law_394 rfl ?_
  refine y_iaddN dL_law_395 ?_
  refine y_sld (fun _ _ _ z => z.2.1) dL_law_396 rfl (by omega) hN ?_
  refine y_callV (M2 := M_X9_least) (ci := 10) (n := 1) (As := [.int (xs (i + 1))]) rfl (wl5 wM_L_63 wi_X9_least wS_X9_least wI_StateShares wc_X9_least) (by decide +kernel) (by decide) rfl rfl (Nat.le_of_ble_eq_true rfl) dL_law_397 hS (by show cu + 0 ≤ 601024; omega) (by show su + 0 ≤ 7293000; omega) (Ct.imp P (fun r h1 n1 V => ?_))
  obtain ⟨v, rfl, ⟨fs2, hm⟩, V⟩ := V
  show BlkY g M_L_law (KL g b N xs) lw_Z 400 [(0, .ref b), (1, .ref S), (2, .ref m), (3, .ref ob), (4, .int (nI i))] [.int v] h1 n1 cu su
  refine y_aload_n 2 dL_law_400 rfl rfl ?_
  refine y_aload_n 0 dL_law_401 rfl rfl ?_
  refine y_iload 4 dL_law_402 rfl ?_
  refine y_iconst (v := (nI 1)) dL_law_404 rfl ?_
  refine y_iaddN dL_law_405 ?_
  refine y_sld (fun _ _ _ z => z.2.1) dL_law_406 rfl (by omega) hN ?_
  refine y_callV (M2 := M_X10_least) (ci := 11) (n := 1) (As := [.int (xs (i + 1))]) rfl (wl5 wM_L_66 wi_X10_least wS_X10_least wI_StateSharesModel wc_X10_least) (by decide +kernel) (by decide) rfl rfl (Nat.le_of_ble_eq_true rfl) dL_law_407 hm (by show cu + 0 ≤ 601024; omega) (by show su + 0 ≤ 7293000; omega) (Ct.imp V (fun r h2 n2 V => ?_))
  obtain ⟨rfl, hn2, hV⟩ := V
  subst hn2
  show BlkY g M_L_law (KL g b N xs) lw_Z 410 [(0, .ref b), (1, .ref S), (2, .ref m), (3, .ref ob), (4, .int (nI i))] [.int v, .int v] h2 n2 cu su
  exact y_icmp_eq (tgt := 1505) dL_law_410 (by decide) (fun _ => k h2 hV) (fun c => absurd rfl c)
set_option maxRecDepth 20000 in
theorem lc_share {g : xG} {b N S m ob n i nx cu su : Nat} {xs : Nat → Int32} {h : xHp} (hN : N < 2 ^ 31) (hi : i + 8 ≤ N) (hc : cu + 2 ≤ 601024) (hs : su + 12 ≤ 7293000) (P : CtW g M_L_share [(0, 11, 14, 13)] [.ref S, .int (xs (i + 1)), .int (xs (i + 2)), .int (xs (i + 3)), .ref ob] h nx (fun r h1 n1 => ∃ q, q < 2 ∧ r = some (.int (nI q)) ∧ (∃ fs, h1 m = some (xo 11 fs)) ∧ Ct g M_X10_share [.ref m, .int (xs (i + 1)), .int (xs (i + 2)), .int (xs (i + 3))] h1 n1 (fun r2 h2 n2 => ∃ v : Int64, r2 = some (.long v) ∧ (∃ fs, h2 m = some (xo 11 fs)) ∧ Ct g M_X10_thrown [.ref m] h2 n2 (fun r3 h3 n3 => r3 = some (.int (nI q)) ∧ Inv h3 S m ob n ∧ (q = 0 → ∃ f, h3 ob = some (xla 1 f) ∧ f 0 = v))))) (k : ∀ h2 n2, Inv h2 S m ob n → BlkY g M_L_law (KL g b N xs) lw_Z 1505 [(0, .ref b), (1, .ref S), (2, .ref m), (3, .ref ob), (4, .int (nI i))] [] h2 n2 (cu + 2) (su + 12)) : BlkY g M_L_law (KL g b N xs) lw_Z 415 [(0, .ref b), (1, .ref S), (2, .ref m), (3, .ref ob), (4, .int (nI i))] [] h nx cu su := by
  refine y_aload_n 1 dL_law_415 rfl rfl ?_
  refine y_aload_n 0 dL_law_416 rfl rfl ?_
  refine y_iload 4 dL_law_417 rfl ?_
  refine y_iconst (v := (nI 1)) dL_law_419 rfl ?_
  refine y_iaddN dL_law_420 ?_
  refine y_sld (fun _ _ _ z => z.2.1) dL_law_421 rfl (by omega) hN ?_
  refine y_aload_n 0 dL_law_422 rfl rfl ?_
  refine y_iload 4 dL_law_423 rfl ?_
  refine y_iconst (v := (nI 2)) dL_law_425 rfl ?_
  refine y_iaddN dL_law_426 ?_
  refine y_sld (fun _ _ _ z => z.2.1) dL_law_427 rfl (by omega) hN ?_
  refine y_aload_n 0 dL_law_428 rfl rfl ?_
  refine y_iload 4 dL_law_429 rfl ?_
  refine y_iconst (v := (nI 3)) dL_law_431 rfl ?_
  refine y_iaddN dL_law_432 ?_
  refine y_sld (fun _ _ _ z => z.2.1) dL_law_433 rfl (by omega) hN ?_
  refine y_aload_n 3 dL_law_434 rfl rfl ?_
  refine y_callSW (M2 := M_L_share) (hh := [(0, 11, 14, 13)]) (n := 5) (As := [.ref S, .int (xs (i + 1)), .int (xs (i + 2)), .int (xs (i + 3)), .ref ob]) (fun _ _ _ z => z.2.2.1) (wl4 wM_L_67 ws_L_share wI_StateSharesLaw wW_share) (by decide +kernel) (by decide) rfl rfl (Nat.le_of_ble_eq_true rfl) dL_law_435 (by show cu + 2 ≤ 601024; omega) (by show su + 12 ≤ 7293000; omega) (Ct.impW P (fun r h1 n1 V => ?_))
  obtain ⟨q, hq, rfl, ⟨fs2, hm⟩, V⟩ := V
  show BlkY g M_L_law (KL g b N xs) lw_Z 438 [(0, .ref b), (1, .ref S), (2, .ref m), (3, .ref ob), (4, .int (nI i))] [.int (nI q)] h1 n1 (cu + 2) (su + 12)
  refine y_istore (L' := [(5, .int (nI q)), (0, .ref b), (1, .ref S), (2, .ref m), (3, .ref ob), (4, .int (nI i))]) dL_law_438 (by decide) rfl ?_
  refine y_aload_n 3 dL_law_440 rfl rfl ?_
  refine y_aload_n 1 dL_law_441 rfl rfl ?_
  refine y_iload 5 dL_law_442 rfl ?_
  refine y_iconst (v := (nI 1)) dL_law_444 rfl ?_
  refine y_iaddN dL_law_445 ?_
  refine y_sld (fun _ _ _ z => z.2.1) dL_law_446 rfl (by omega) hN ?_
  refine y_aload_n 1 dL_law_447 rfl rfl ?_
  refine y_iload 5 dL_law_448 rfl ?_
  refine y_iconst (v := (nI 2)) dL_law_450 rfl ?_
  refine y_iaddN dL_law_451 ?_
  refine y_sld (fun _ _ _ z => z.2.1) dL_law_452 rfl (by omega) hN ?_
  refine y_aload_n 1 dL_law_453 rfl rfl ?_
  refine y_iload 5 dL_law_454 rfl ?_
  refine y_iconst (v := (nI 3)) dL_law_456 rfl ?_
  refine y_iaddN dL_law_457 ?_
  refine y_sld (fun _ _ _ z => z.2.1) dL_law_458 rfl (by omega) hN ?_
  refine y_callV (M2 := M_X10_share) (ci := 11) (n := 3) (As := [.int (xs (i + 1)), .int (xs (i + 2)), .int (xs (i + 3))]) rfl (wl5 wM_L_70 wi_X10_share wS_X10_share wI_StateSharesModel wc_X10_share) (by decide +kernel) (by decide) rfl rfl (Nat.le_of_ble_eq_true rfl) dL_law_459 hm (by show cu + 2 + 0 ≤ 601024; omega) (by show su + 12 + 0 ≤ 7293000; omega) (Ct.imp V (fun r h2 n2 V => ?_))
  obtain ⟨v, rfl, ⟨fs3, hm3⟩, V⟩ := V
  show BlkY g M_L_law (KL g b N xs) lw_Z 462 [(5, .int (nI q)), (0, .ref b), (1, .ref S), (2, .ref m), (3, .ref ob), (4, .int (nI i))] [.long v] h2 n2 (cu + 2) (su + 12)
  refine y_lstore (L' := [(6, .long v), (5, .int (nI q)), (0, .ref b), (1, .ref S), (2, .ref m), (3, .ref ob), (4, .int (nI i))]) dL_law_462 (by decide) rfl ?_
  refine y_aload_n 4 dL_law_464 rfl rfl ?_
  refine y_callV (M2 := M_X10_thrown) (ci := 11) (n := 0) (As := []) rfl (wl5 wM_L_42 wi_X10_thrown wS_X10_thrown wI_StateSharesModel wc_X10_thrown) (by decide +kernel) (by decide) rfl rfl (Nat.le_of_ble_eq_true rfl) dL_law_465 hm3 (by show cu + 2 + 0 ≤ 601024; omega) (by show su + 12 + 0 ≤ 7293000; omega) (Ct.imp V (fun r h3 n3 V => ?_))
  obtain ⟨rfl, hV, hf⟩ := V
  show BlkY g M_L_law (KL g b N xs) lw_Z 468 [(6, .long v), (5, .int (nI q)), (0, .ref b), (1, .ref S), (2, .ref m), (3, .ref ob), (4, .int (nI i))] [.int (nI q)] h3 n3 (cu + 2) (su + 12)
  refine y_iload 1 dL_law_468 rfl ?_
  refine y_icmp_eq (tgt := 475) dL_law_470 (by decide) (fun _ => ?_) (fun c => absurd rfl c)
  refine y_iload 1 dL_law_475 rfl ?_
  refine y_if_neN (tgt := 491) dL_law_477 (by decide) (by omega) (fun _ => y_goto (tgt := 1505) dL_law_491 (by decide) (BlkY.sub [2, 3, 4, 5, 6] rfl (k h3 n3 hV))) (fun c => ?_)
  obtain ⟨f, hob, hfv⟩ := hf c
  refine y_aload_n 5 dL_law_480 rfl rfl ?_
  refine y_iconst (v := (nI 0)) dL_law_481 rfl ?_
  refine y_lald dL_law_482 hob (j := 0) rfl (by decide) (by decide) ?_
  rw [hfv]
  refine y_lload 0 dL_law_483 rfl ?_
  refine y_lcmp dL_law_485 ?_
  exact y_if_eq (tgt := 491) dL_law_486 (by decide) (fun _ => y_goto (tgt := 1505) dL_law_491 (by decide) (BlkY.sub [2, 3, 4, 5, 6] rfl (k h3 n3 hV))) (fun c => absurd (lcmp_self _) c)
set_option maxRecDepth 20000 in
theorem lc_at {g : xG} {b N S m ob n i nx cu su : Nat} {xs : Nat → Int32} {h : xHp} (hN : N < 2 ^ 31) (hi : i + 8 ≤ N) (hc : cu + 2 ≤ 601024) (hs : su + 12 ≤ 7293000) (P : CtW g M_L_at [(0, 11, 14, 13)] [.ref S, .int (xs (i + 1)), .int (xs (i + 2)), .int (xs (i + 3)), .ref ob] h nx (fun r h1 n1 => ∃ q, q < 2 ∧ r = some (.int (nI q)) ∧ (∃ fs, h1 m = some (xo 11 fs)) ∧ Ct g M_X10_at [.ref m, .int (xs (i + 1)), .int (xs (i + 2)), .int (xs (i + 3))] h1 n1 (fun r2 h2 n2 => ∃ v : Int64, r2 = some (.long v) ∧ (∃ fs, h2 m = some (xo 11 fs)) ∧ Ct g M_X10_thrown [.ref m] h2 n2 (fun r3 h3 n3 => r3 = some (.int (nI q)) ∧ Inv h3 S m ob n ∧ (q = 0 → ∃ f, h3 ob = some (xla 1 f) ∧ f 0 = v))))) (k : ∀ h2 n2, Inv h2 S m ob n → BlkY g M_L_law (KL g b N xs) lw_Z 1505 [(0, .ref b), (1, .ref S), (2, .ref m), (3, .ref ob), (4, .int (nI i))] [] h2 n2 (cu + 2) (su + 12)) : BlkY g M_L_law (KL g b N xs) lw_Z 494 [(0, .ref b), (1, .ref S), (2, .ref m), (3, .ref ob), (4, .int (nI i))] [] h nx cu su := by
  refine y_aload_n 1 dL_law_494 rfl rfl ?_
  refine y_aload_n 0 dL_law_495 rfl rfl ?_
  refine y_iload 4 dL_law_496 rfl ?_
  refine y_iconst (v := (nI 1)) dL_law_498 rfl ?_
  refine y_iaddN dL_law_499 ?_
  refine y_sld (fun _ _ _ z => z.2.1) dL_law_500 rfl (by omega) hN ?_
  refine y_aload_n 0 dL_law_501 rfl rfl ?_
  refine y_iload 4 dL_law_502 rfl ?_
  refine y_iconst (v := (nI 2)) dL_law_504 rfl ?_
  refine y_iaddN dL_law_505 ?_
  refine y_sld (fun _ _ _ z => z.2.1) dL_law_506 rfl (by omega) hN ?_
  refine y_aload_n 0 dL_law_507 rfl rfl ?_
  refine y_iload 4 dL_law_508 rfl ?_
  refine y_iconst (v := (nI 3)) dL_law_510 rfl ?_
  refine y_iaddN dL_law_511 ?_
  refine y_sld (fun _ _ _ z => z.2.1) dL_law_512 rfl (by omega) hN ?_
  refine y_aload_n 3 dL_law_513 rfl rfl ?_
  refine y_callSW (M2 := M_L_at) (hh := [(0, 11, 14, 13)]) (n := 5) (As := [.ref S, .int (xs (i + 1)), .int (xs (i + 2)), .int (xs (i + 3)), .ref ob]) (fun _ _ _ z => z.2.2.1) (wl4 wM_L_71 ws_L_at wI_StateSharesLaw wW_at) (by decide +kernel) (by decide) rfl rfl (Nat.le_of_ble_eq_true rfl) dL_law_514 (by show cu + 2 ≤ 601024; omega) (by show su + 12 ≤ 7293000; omega) (Ct.impW P (fun r h1 n1 V => ?_))
  obtain ⟨q, hq, rfl, ⟨fs2, hm⟩, V⟩ := V
  show BlkY g M_L_law (KL g b N xs) lw_Z 517 [(0, .ref b), (1, .ref S), (2, .ref m), (3, .ref ob), (4, .int (nI i))] [.int (nI q)] h1 n1 (cu + 2) (su + 12)
  refine y_istore (L' := [(5, .int (nI q)), (0, .ref b), (1, .ref S), (2, .ref m), (3, .ref ob), (4, .int (nI i))]) dL_law_517 (by decide) rfl ?_
  refine y_aload_n 3 dL_law_519 rfl rfl ?_
  refine y_aload_n 1 dL_law_520 rfl rfl ?_
  refine y_iload 5 dL_law_521 rfl ?_
  refine y_iconst (v := (nI 1)) dL_law_523 rfl ?_
  refine y_iaddN dL_law_524 ?_
  refine y_sld (fun _ _ _ z => z.2.1) dL_law_525 rfl (by omega) hN ?_
  refine y_aload_n 1 dL_law_526 rfl rfl ?_
  refine y_iload 5 dL_law_527 rfl ?_
  refine y_iconst (v := (nI 2)) dL_law_529 rfl ?_
  refine y_iaddN dL_law_530 ?_
  refine y_sld (fun _ _ _ z => z.2.1) dL_law_531 rfl (by omega) hN ?_
  refine y_aload_n 1 dL_law_532 rfl rfl ?_
  refine y_iload 5 dL_law_533 rfl ?_
  refine y_iconst (v := (nI 3)) dL_law_535 rfl ?_
  refine y_iaddN dL_law_536 ?_
  refine y_sld (fun _ _ _ z => z.2.1) dL_law_537 rfl (by omega) hN ?_
  refine y_callV (M2 := M_X10_at) (ci := 11) (n := 3) (As := [.int (xs (i + 1)), .int (xs (i + 2)), .int (xs (i + 3))]) rfl (wl5 wM_L_73 wi_X10_at wS_X10_at wI_StateSharesModel wc_X10_at) (by decide +kernel) (by decide) rfl rfl (Nat.le_of_ble_eq_true rfl) dL_law_538 hm (by show cu + 2 + 0 ≤ 601024; omega) (by show su + 12 + 0 ≤ 7293000; omega) (Ct.imp V (fun r h2 n2 V => ?_))
  obtain ⟨v, rfl, ⟨fs3, hm3⟩, V⟩ := V
  show BlkY g M_L_law (KL g b N xs) lw_Z 541 [(5, .int (nI q)), (0, .ref b), (1, .ref S), (2, .ref m), (3, .ref ob), (4, .int (nI i))] [.long v] h2 n2 (cu + 2) (su + 12)
  refine y_lstore (L' := [(6, .long v), (5, .int (nI q)), (0, .ref b), (1, .ref S), (2, .ref m), (3, .ref ob), (4, .int (nI i))]) dL_law_541 (by decide) rfl ?_
  refine y_aload_n 4 dL_law_543 rfl rfl ?_
  refine y_callV (M2 := M_X10_thrown) (ci := 11) (n := 0) (As := []) rfl (wl5 wM_L_42 wi_X10_thrown wS_X10_thrown wI_StateSharesModel wc_X10_thrown) (by decide +kernel) (by decide) rfl rfl (Nat.le_of_ble_eq_true rfl) dL_law_544 hm3 (by show cu + 2 + 0 ≤ 601024; omega) (by show su + 12 + 0 ≤ 7293000; omega) (Ct.imp V (fun r h3 n3 V => ?_))
  obtain ⟨rfl, hV, hf⟩ := V
  show BlkY g M_L_law (KL g b N xs) lw_Z 547 [(6, .long v), (5, .int (nI q)), (0, .ref b), (1, .ref S), (2, .ref m), (3, .ref ob), (4, .int (nI i))] [.int (nI q)] h3 n3 (cu + 2) (su + 12)
  refine y_iload 1 dL_law_547 rfl ?_
  refine y_icmp_eq (tgt := 554) dL_law_549 (by decide) (fun _ => ?_) (fun c => absurd rfl c)
  refine y_iload 1 dL_law_554 rfl ?_
  refine y_if_neN (tgt := 570) dL_law_556 (by decide) (by omega) (fun _ => y_goto (tgt := 1505) dL_law_570 (by decide) (BlkY.sub [2, 3, 4, 5, 6] rfl (k h3 n3 hV))) (fun c => ?_)
  obtain ⟨f, hob, hfv⟩ := hf c
  refine y_aload_n 5 dL_law_559 rfl rfl ?_
  refine y_iconst (v := (nI 0)) dL_law_560 rfl ?_
  refine y_lald dL_law_561 hob (j := 0) rfl (by decide) (by decide) ?_
  rw [hfv]
  refine y_lload 0 dL_law_562 rfl ?_
  refine y_lcmp dL_law_564 ?_
  exact y_if_eq (tgt := 570) dL_law_565 (by decide) (fun _ => y_goto (tgt := 1505) dL_law_570 (by decide) (BlkY.sub [2, 3, 4, 5, 6] rfl (k h3 n3 hV))) (fun c => absurd (lcmp_self _) c)
set_option maxRecDepth 20000 in
theorem lc_start {g : xG} {b N S m ob n i nx cu su : Nat} {xs : Nat → Int32} {h : xHp} {fs : List Value} (hN : N < 2 ^ 31) (hi : i + 8 ≤ N) (hc : cu + 2 ≤ 601024) (hs : su + 12 ≤ 7293000) (hS : h S = some (xo 10 fs)) (P : PairI g M_X9_start M_X10_start [.int (xs (i + 1)), .long (((xs (i + 2)).toInt64 <<< ((nI 32).toInt64 &&& 63)) ||| ((xs (i + 3)).toInt64 &&& (lN 4294967295))), .long (((xs (i + 4)).toInt64 <<< ((nI 32).toInt64 &&& 63)) ||| ((xs (i + 5)).toInt64 &&& (lN 4294967295)))] S m ob n h nx) (k : ∀ h2, Inv h2 S m ob n → BlkY g M_L_law (KL g b N xs) lw_Z 1505 [(0, .ref b), (1, .ref S), (2, .ref m), (3, .ref ob), (4, .int (nI i))] [] h2 nx cu su) : BlkY g M_L_law (KL g b N xs) lw_Z 573 [(0, .ref b), (1, .ref S), (2, .ref m), (3, .ref ob), (4, .int (nI i))] [] h nx cu su := by
  refine y_aload_n 1 dL_law_573 rfl rfl ?_
  refine y_aload_n 0 dL_law_574 rfl rfl ?_
  refine y_iload 4 dL_law_575 rfl ?_
  refine y_iconst (v := (nI 1)) dL_law_577 rfl ?_
  refine y_iaddN dL_law_578 ?_
  refine y_sld (fun _ _ _ z => z.2.1) dL_law_579 rfl (by omega) hN ?_
  refine y_aload_n 0 dL_law_580 rfl rfl ?_
  refine y_iload 4 dL_law_581 rfl ?_
  refine y_iconst (v := (nI 2)) dL_law_583 rfl ?_
  refine y_iaddN dL_law_584 ?_
  refine y_sld (fun _ _ _ z => z.2.1) dL_law_585 rfl (by omega) hN ?_
  refine y_i2l dL_law_586 ?_
  refine y_bipush (v := (nI 32)) dL_law_587 rfl ?_
  refine y_lshl dL_law_589 ?_
  refine y_aload_n 0 dL_law_590 rfl rfl ?_
  refine y_iload 4 dL_law_591 rfl ?_
  refine y_iconst (v := (nI 3)) dL_law_593 rfl ?_
  refine y_iaddN dL_law_594 ?_
  refine y_sld (fun _ _ _ z => z.2.1) dL_law_595 rfl (by omega) hN ?_
  refine y_i2l dL_law_596 ?_
  refine y_ldc2 (v := (lN 4294967295)) wL_L_74 dL_law_597 ?_
  refine y_land dL_law_600 ?_
  refine y_lor dL_law_601 ?_
  refine y_aload_n 0 dL_law_602 rfl rfl ?_
  refine y_iload 4 dL_law_603 rfl ?_
  refine y_iconst (v := (nI 4)) dL_law_605 rfl ?_
  refine y_iaddN dL_law_606 ?_
  refine y_sld (fun _ _ _ z => z.2.1) dL_law_607 rfl (by omega) hN ?_
  refine y_i2l dL_law_608 ?_
  refine y_bipush (v := (nI 32)) dL_law_609 rfl ?_
  refine y_lshl dL_law_611 ?_
  refine y_aload_n 0 dL_law_612 rfl rfl ?_
  refine y_iload 4 dL_law_613 rfl ?_
  refine y_iconst (v := (nI 5)) dL_law_615 rfl ?_
  refine y_iaddN dL_law_616 ?_
  refine y_sld (fun _ _ _ z => z.2.1) dL_law_617 rfl (by omega) hN ?_
  refine y_i2l dL_law_618 ?_
  refine y_ldc2 (v := (lN 4294967295)) wL_L_74 dL_law_619 ?_
  refine y_land dL_law_622 ?_
  refine y_lor dL_law_623 ?_
  refine y_callV (M2 := M_X9_start) (ci := 10) (n := 3) (As := [.int (xs (i + 1)), .long (((xs (i + 2)).toInt64 <<< ((nI 32).toInt64 &&& 63)) ||| ((xs (i + 3)).toInt64 &&& (lN 4294967295))), .long (((xs (i + 4)).toInt64 <<< ((nI 32).toInt64 &&& 63)) ||| ((xs (i + 5)).toInt64 &&& (lN 4294967295)))]) rfl (wl5 wM_L_76 wi_X9_start wS_X9_start wI_StateShares wc_X9_start) (by decide +kernel) (by decide) rfl rfl (Nat.le_of_ble_eq_true rfl) dL_law_624 hS (by show cu + 0 ≤ 601024; omega) (by show su + 0 ≤ 7293000; omega) (Ct.imp P (fun r h1 n1 V => ?_))
  obtain ⟨v, rfl, ⟨fs2, hm⟩, V⟩ := V
  show BlkY g M_L_law (KL g b N xs) lw_Z 627 [(0, .ref b), (1, .ref S), (2, .ref m), (3, .ref ob), (4, .int (nI i))] [.int v] h1 n1 cu su
  refine y_aload_n 2 dL_law_627 rfl rfl ?_
  refine y_aload_n 0 dL_law_628 rfl rfl ?_
  refine y_iload 4 dL_law_629 rfl ?_
  refine y_iconst (v := (nI 1)) dL_law_631 rfl ?_
  refine y_iaddN dL_law_632 ?_
  refine y_sld (fun _ _ _ z => z.2.1) dL_law_633 rfl (by omega) hN ?_
  refine y_aload_n 0 dL_law_634 rfl rfl ?_
  refine y_iload 4 dL_law_635 rfl ?_
  refine y_iconst (v := (nI 2)) dL_law_637 rfl ?_
  refine y_iaddN dL_law_638 ?_
  refine y_sld (fun _ _ _ z => z.2.1) dL_law_639 rfl (by omega) hN ?_
  refine y_i2l dL_law_640 ?_
  refine y_bipush (v := (nI 32)) dL_law_641 rfl ?_
  refine y_lshl dL_law_643 ?_
  refine y_aload_n 0 dL_law_644 rfl rfl ?_
  refine y_iload 4 dL_law_645 rfl ?_
  refine y_iconst (v := (nI 3)) dL_law_647 rfl ?_
  refine y_iaddN dL_law_648 ?_
  refine y_sld (fun _ _ _ z => z.2.1) dL_law_649 rfl (by omega) hN ?_
  refine y_i2l dL_law_650 ?_
  refine y_ldc2 (v := (lN 4294967295)) wL_L_74 dL_law_651 ?_
  refine y_land dL_law_654 ?_
  refine y_lor dL_law_655 ?_
  refine y_aload_n 0 dL_law_656 rfl rfl ?_
  refine y_iload 4 dL_law_657 rfl ?_
  refine y_iconst (v := (nI 4)) dL_law_659 rfl ?_
  refine y_iaddN dL_law_660 ?_
  refine y_sld (fun _ _ _ z => z.2.1) dL_law_661 rfl (by omega) hN ?_
  refine y_i2l dL_law_662 ?_
  refine y_bipush (v := (nI 32)) dL_law_663 rfl ?_
  refine y_lshl dL_law_665 ?_
  refine y_aload_n 0 dL_law_666 rfl rfl ?_
  refine y_iload 4 dL_law_667 rfl ?_
  refine y_iconst (v := (nI 5)) dL_law_669 rfl ?_
  refine y_iaddN dL_law_670 ?_
  refine y_sld (fun _ _ _ z => z.2.1) dL_law_671 rfl (by omega) hN ?_
  refine y_i2l dL_law_672 ?_
  refine y_ldc2 (v := (lN 4294967295)) wL_L_74 dL_law_673 ?_
  refine y_land dL_law_676 ?_
  refine y_lor dL_law_677 ?_
  refine y_callV (M2 := M_X10_start) (ci := 11) (n := 3) (As := [.int (xs (i + 1)), .long (((xs (i + 2)).toInt64 <<< ((nI 32).toInt64 &&& 63)) ||| ((xs (i + 3)).toInt64 &&& (lN 4294967295))), .long (((xs (i + 4)).toInt64 <<< ((nI 32).toInt64 &&& 63)) ||| ((xs (i + 5)).toInt64 &&& (lN 4294967295)))]) rfl (wl5 wM_L_80 wi_X10_start wS_X10_start wI_StateSharesModel wc_X10_start) (by decide +kernel) (by decide) rfl rfl (Nat.le_of_ble_eq_true rfl) dL_law_678 hm (by show cu + 0 ≤ 601024; omega) (by show su + 0 ≤ 7293000; omega) (Ct.imp V (fun r h2 n2 V => ?_))
  obtain ⟨rfl, hn2, hV⟩ := V
  subst hn2
  show BlkY g M_L_law (KL g b N xs) lw_Z 681 [(0, .ref b), (1, .ref S), (2, .ref m), (3, .ref ob), (4, .int (nI i))] [.int v, .int v] h2 n2 cu su
  exact y_icmp_eq (tgt := 1505) dL_law_681 (by decide) (fun _ => k h2 hV) (fun c => absurd rfl c)
set_option maxRecDepth 20000 in
theorem lc_works {g : xG} {b N S m ob n i nx cu su : Nat} {xs : Nat → Int32} {h : xHp} {fs : List Value} (hN : N < 2 ^ 31) (hi : i + 8 ≤ N) (hc : cu + 2 ≤ 601024) (hs : su + 12 ≤ 7293000) (hS : h S = some (xo 10 fs)) (P : PairI g M_X9_works M_X10_works [.int (xs (i + 1)), .int (xs (i + 2)), .int (xs (i + 3)), .long (((xs (i + 4)).toInt64 <<< ((nI 32).toInt64 &&& 63)) ||| ((xs (i + 5)).toInt64 &&& (lN 4294967295))), .long (((xs (i + 6)).toInt64 <<< ((nI 32).toInt64 &&& 63)) ||| ((xs (i + 7)).toInt64 &&& (lN 4294967295)))] S m ob n h nx) (k : ∀ h2, Inv h2 S m ob n → BlkY g M_L_law (KL g b N xs) lw_Z 1505 [(0, .ref b), (1, .ref S), (2, .ref m), (3, .ref ob), (4, .int (nI i))] [] h2 nx cu su) : BlkY g M_L_law (KL g b N xs) lw_Z 686 [(0, .ref b), (1, .ref S), (2, .ref m), (3, .ref ob), (4, .int (nI i))] [] h nx cu su := by
  refine y_aload_n 1 dL_law_686 rfl rfl ?_
  refine y_aload_n 0 dL_law_687 rfl rfl ?_
  refine y_iload 4 dL_law_688 rfl ?_
  refine y_iconst (v := (nI 1)) dL_law_690 rfl ?_
  refine y_iaddN dL_law_691 ?_
  refine y_sld (fun _ _ _ z => z.2.1) dL_law_692 rfl (by omega) hN ?_
  refine y_aload_n 0 dL_law_693 rfl rfl ?_
  refine y_iload 4 dL_law_694 rfl ?_
  refine y_iconst (v := (nI 2)) dL_law_696 rfl ?_
  refine y_iaddN dL_law_697 ?_
  refine y_sld (fun _ _ _ z => z.2.1) dL_law_698 rfl (by omega) hN ?_
  refine y_aload_n 0 dL_law_699 rfl rfl ?_
  refine y_iload 4 dL_law_700 rfl ?_
  refine y_iconst (v := (nI 3)) dL_law_702 rfl ?_
  refine y_iaddN dL_law_703 ?_
  refine y_sld (fun _ _ _ z => z.2.1) dL_law_704 rfl (by omega) hN ?_
  refine y_aload_n 0 dL_law_705 rfl rfl ?_
  refine y_iload 4 dL_law_706 rfl ?_
  refine y_iconst (v := (nI 4)) dL_law_708 rfl ?_
  refine y_iaddN dL_law_709 ?_
  refine y_sld (fun _ _ _ z => z.2.1) dL_law_710 rfl (by omega) hN ?_
  refine y_i2l dL_law_711 ?_
  refine y_bipush (v := (nI 32)) dL_law_712 rfl ?_
  refine y_lshl dL_law_714 ?_
  refine y_aload_n 0 dL_law_715 rfl rfl ?_
  refine y_iload 4 dL_law_716 rfl ?_
  refine y_iconst (v := (nI 5)) dL_law_718 rfl ?_
  refine y_iaddN dL_law_719 ?_
  refine y_sld (fun _ _ _ z => z.2.1) dL_law_720 rfl (by omega) hN ?_
  refine y_i2l dL_law_721 ?_
  refine y_ldc2 (v := (lN 4294967295)) wL_L_74 dL_law_722 ?_
  refine y_land dL_law_725 ?_
  refine y_lor dL_law_726 ?_
  refine y_aload_n 0 dL_law_727 rfl rfl ?_
  refine y_iload 4 dL_law_728 rfl ?_
  refine y_bipush (v := (nI 6)) dL_law_730 rfl ?_
  refine y_iaddN dL_law_732 ?_
  refine y_sld (fun _ _ _ z => z.2.1) dL_law_733 rfl (by omega) hN ?_
  refine y_i2l dL_law_734 ?_
  refine y_bipush (v := (nI 32)) dL_law_735 rfl ?_
  refine y_lshl dL_law_737 ?_
  refine y_aload_n 0 dL_law_738 rfl rfl ?_
  refine y_iload 4 dL_law_739 rfl ?_
  refine y_bipush (v := (nI 7)) dL_law_741 rfl ?_
  refine y_iaddN dL_law_743 ?_
  refine y_sld (fun _ _ _ z => z.2.1) dL_law_744 rfl (by omega) hN ?_
  refine y_i2l dL_law_745 ?_
  refine y_ldc2 (v := (lN 4294967295)) wL_L_74 dL_law_746 ?_
  refine y_land dL_law_749 ?_
  refine y_lor dL_law_750 ?_
  refine y_callV (M2 := M_X9_works) (ci := 10) (n := 5) (As := [.int (xs (i + 1)), .int (xs (i + 2)), .int (xs (i + 3)), .long (((xs (i + 4)).toInt64 <<< ((nI 32).toInt64 &&& 63)) ||| ((xs (i + 5)).toInt64 &&& (lN 4294967295))), .long (((xs (i + 6)).toInt64 <<< ((nI 32).toInt64 &&& 63)) ||| ((xs (i + 7)).toInt64 &&& (lN 4294967295)))]) rfl (wl5 wM_L_81 wi_X9_works wS_X9_works wI_StateShares wc_X9_works) (by decide +kernel) (by decide) rfl rfl (Nat.le_of_ble_eq_true rfl) dL_law_751 hS (by show cu + 0 ≤ 601024; omega) (by show su + 0 ≤ 7293000; omega) (Ct.imp P (fun r h1 n1 V => ?_))
  obtain ⟨v, rfl, ⟨fs2, hm⟩, V⟩ := V
  show BlkY g M_L_law (KL g b N xs) lw_Z 754 [(0, .ref b), (1, .ref S), (2, .ref m), (3, .ref ob), (4, .int (nI i))] [.int v] h1 n1 cu su
  refine y_aload_n 2 dL_law_754 rfl rfl ?_
  refine y_aload_n 0 dL_law_755 rfl rfl ?_
  refine y_iload 4 dL_law_756 rfl ?_
  refine y_iconst (v := (nI 1)) dL_law_758 rfl ?_
  refine y_iaddN dL_law_759 ?_
  refine y_sld (fun _ _ _ z => z.2.1) dL_law_760 rfl (by omega) hN ?_
  refine y_aload_n 0 dL_law_761 rfl rfl ?_
  refine y_iload 4 dL_law_762 rfl ?_
  refine y_iconst (v := (nI 2)) dL_law_764 rfl ?_
  refine y_iaddN dL_law_765 ?_
  refine y_sld (fun _ _ _ z => z.2.1) dL_law_766 rfl (by omega) hN ?_
  refine y_aload_n 0 dL_law_767 rfl rfl ?_
  refine y_iload 4 dL_law_768 rfl ?_
  refine y_iconst (v := (nI 3)) dL_law_770 rfl ?_
  refine y_iaddN dL_law_771 ?_
  refine y_sld (fun _ _ _ z => z.2.1) dL_law_772 rfl (by omega) hN ?_
  refine y_aload_n 0 dL_law_773 rfl rfl ?_
  refine y_iload 4 dL_law_774 rfl ?_
  refine y_iconst (v := (nI 4)) dL_law_776 rfl ?_
  refine y_iaddN dL_law_777 ?_
  refine y_sld (fun _ _ _ z => z.2.1) dL_law_778 rfl (by omega) hN ?_
  refine y_i2l dL_law_779 ?_
  refine y_bipush (v := (nI 32)) dL_law_780 rfl ?_
  refine y_lshl dL_law_782 ?_
  refine y_aload_n 0 dL_law_783 rfl rfl ?_
  refine y_iload 4 dL_law_784 rfl ?_
  refine y_iconst (v := (nI 5)) dL_law_786 rfl ?_
  refine y_iaddN dL_law_787 ?_
  refine y_sld (fun _ _ _ z => z.2.1) dL_law_788 rfl (by omega) hN ?_
  refine y_i2l dL_law_789 ?_
  refine y_ldc2 (v := (lN 4294967295)) wL_L_74 dL_law_790 ?_
  refine y_land dL_law_793 ?_
  refine y_lor dL_law_794 ?_
  refine y_aload_n 0 dL_law_795 rfl rfl ?_
  refine y_iload 4 dL_law_796 rfl ?_
  refine y_bipush (v := (nI 6)) dL_law_798 rfl ?_
  refine y_iaddN dL_law_800 ?_
  refine y_sld (fun _ _ _ z => z.2.1) dL_law_801 rfl (by omega) hN ?_
  refine y_i2l dL_law_802 ?_
  refine y_bipush (v := (nI 32)) dL_law_803 rfl ?_
  refine y_lshl dL_law_805 ?_
  refine y_aload_n 0 dL_law_806 rfl rfl ?_
  refine y_iload 4 dL_law_807 rfl ?_
  refine y_bipush (v := (nI 7)) dL_law_809 rfl ?_
  refine y_iaddN dL_law_811 ?_
  refine y_sld (fun _ _ _ z => z.2.1) dL_law_812 rfl (by omega) hN ?_
  refine y_i2l dL_law_813 ?_
  refine y_ldc2 (v := (lN 4294967295)) wL_L_74 dL_law_814 ?_
  refine y_land dL_law_817 ?_
  refine y_lor dL_law_818 ?_
  refine y_callV (M2 := M_X10_works) (ci := 11) (n := 5) (As := [.int (xs (i + 1)), .int (xs (i + 2)), .int (xs (i + 3)), .long (((xs (i + 4)).toInt64 <<< ((nI 32).toInt64 &&& 63)) ||| ((xs (i + 5)).toInt64 &&& (lN 4294967295))), .long (((xs (i + 6)).toInt64 <<< ((nI 32).toInt64 &&& 63)) ||| ((xs (i + 7)).toInt64 &&& (lN 4294967295)))]) rfl (wl5 wM_L_85 wi_X10_works wS_X10_works wI_StateSharesModel wc_X10_works) (by decide +kernel) (by decide) rfl rfl (Nat.le_of_ble_eq_true rfl) dL_law_819 hm (by show cu + 0 ≤ 601024; omega) (by show su + 0 ≤ 7293000; omega) (Ct.imp V (fun r h2 n2 V => ?_))
  obtain ⟨rfl, hn2, hV⟩ := V
  subst hn2
  show BlkY g M_L_law (KL g b N xs) lw_Z 822 [(0, .ref b), (1, .ref S), (2, .ref m), (3, .ref ob), (4, .int (nI i))] [.int v, .int v] h2 n2 cu su
  exact y_icmp_eq (tgt := 1505) dL_law_822 (by decide) (fun _ => k h2 hV) (fun c => absurd rfl c)
set_option maxRecDepth 20000 in
theorem lc_event {g : xG} {b N S m ob n i nx cu su : Nat} {xs : Nat → Int32} {h : xHp} {fs : List Value} (hN : N < 2 ^ 31) (hi : i + 8 ≤ N) (hc : cu + 2 ≤ 601024) (hs : su + 12 ≤ 7293000) (hS : h S = some (xo 10 fs)) (P : PairI g M_X9_event M_X10_event [.int (xs (i + 1)), .int (xs (i + 2)), .int (xs (i + 3)), .long (((xs (i + 4)).toInt64 <<< ((nI 32).toInt64 &&& 63)) ||| ((xs (i + 5)).toInt64 &&& (lN 4294967295))), .long (((xs (i + 6)).toInt64 <<< ((nI 32).toInt64 &&& 63)) ||| ((xs (i + 7)).toInt64 &&& (lN 4294967295)))] S m ob n h nx) (k : ∀ h2, Inv h2 S m ob n → BlkY g M_L_law (KL g b N xs) lw_Z 1505 [(0, .ref b), (1, .ref S), (2, .ref m), (3, .ref ob), (4, .int (nI i))] [] h2 nx cu su) : BlkY g M_L_law (KL g b N xs) lw_Z 827 [(0, .ref b), (1, .ref S), (2, .ref m), (3, .ref ob), (4, .int (nI i))] [] h nx cu su := by
  refine y_aload_n 1 dL_law_827 rfl rfl ?_
  refine y_aload_n 0 dL_law_828 rfl rfl ?_
  refine y_iload 4 dL_law_829 rfl ?_
  refine y_iconst (v := (nI 1)) dL_law_831 rfl ?_
  refine y_iaddN dL_law_832 ?_
  refine y_sld (fun _ _ _ z => z.2.1) dL_law_833 rfl (by omega) hN ?_
  refine y_aload_n 0 dL_law_834 rfl rfl ?_
  refine y_iload 4 dL_law_835 rfl ?_
  refine y_iconst (v := (nI 2)) dL_law_837 rfl ?_
  refine y_iaddN dL_law_838 ?_
  refine y_sld (fun _ _ _ z => z.2.1) dL_law_839 rfl (by omega) hN ?_
  refine y_aload_n 0 dL_law_840 rfl rfl ?_
  refine y_iload 4 dL_law_841 rfl ?_
  refine y_iconst (v := (nI 3)) dL_law_843 rfl ?_
  refine y_iaddN dL_law_844 ?_
  refine y_sld (fun _ _ _ z => z.2.1) dL_law_845 rfl (by omega) hN ?_
  refine y_aload_n 0 dL_law_846 rfl rfl ?_
  refine y_iload 4 dL_law_847 rfl ?_
  refine y_iconst (v := (nI 4)) dL_law_849 rfl ?_
  refine y_iaddN dL_law_850 ?_
  refine y_sld (fun _ _ _ z => z.2.1) dL_law_851 rfl (by omega) hN ?_
  refine y_i2l dL_law_852 ?_
  refine y_bipush (v := (nI 32)) dL_law_853 rfl ?_
  refine y_lshl dL_law_855 ?_
  refine y_aload_n 0 dL_law_856 rfl rfl ?_
  refine y_iload 4 dL_law_857 rfl ?_
  refine y_iconst (v := (nI 5)) dL_law_859 rfl ?_
  refine y_iaddN dL_law_860 ?_
  refine y_sld (fun _ _ _ z => z.2.1) dL_law_861 rfl (by omega) hN ?_
  refine y_i2l dL_law_862 ?_
  refine y_ldc2 (v := (lN 4294967295)) wL_L_74 dL_law_863 ?_
  refine y_land dL_law_866 ?_
  refine y_lor dL_law_867 ?_
  refine y_aload_n 0 dL_law_868 rfl rfl ?_
  refine y_iload 4 dL_law_869 rfl ?_
  refine y_bipush (v := (nI 6)) dL_law_871 rfl ?_
  refine y_iaddN dL_law_873 ?_
  refine y_sld (fun _ _ _ z => z.2.1) dL_law_874 rfl (by omega) hN ?_
  refine y_i2l dL_law_875 ?_
  refine y_bipush (v := (nI 32)) dL_law_876 rfl ?_
  refine y_lshl dL_law_878 ?_
  refine y_aload_n 0 dL_law_879 rfl rfl ?_
  refine y_iload 4 dL_law_880 rfl ?_
  refine y_bipush (v := (nI 7)) dL_law_882 rfl ?_
  refine y_iaddN dL_law_884 ?_
  refine y_sld (fun _ _ _ z => z.2.1) dL_law_885 rfl (by omega) hN ?_
  refine y_i2l dL_law_886 ?_
  refine y_ldc2 (v := (lN 4294967295)) wL_L_74 dL_law_887 ?_
  refine y_land dL_law_890 ?_
  refine y_lor dL_law_891 ?_
  refine y_callV (M2 := M_X9_event) (ci := 10) (n := 5) (As := [.int (xs (i + 1)), .int (xs (i + 2)), .int (xs (i + 3)), .long (((xs (i + 4)).toInt64 <<< ((nI 32).toInt64 &&& 63)) ||| ((xs (i + 5)).toInt64 &&& (lN 4294967295))), .long (((xs (i + 6)).toInt64 <<< ((nI 32).toInt64 &&& 63)) ||| ((xs (i + 7)).toInt64 &&& (lN 4294967295)))]) rfl (wl5 wM_L_86 wi_X9_event wS_X9_event wI_StateShares wc_X9_event) (by decide +kernel) (by decide) rfl rfl (Nat.le_of_ble_eq_true rfl) dL_law_892 hS (by show cu + 0 ≤ 601024; omega) (by show su + 0 ≤ 7293000; omega) (Ct.imp P (fun r h1 n1 V => ?_))
  obtain ⟨v, rfl, ⟨fs2, hm⟩, V⟩ := V
  show BlkY g M_L_law (KL g b N xs) lw_Z 895 [(0, .ref b), (1, .ref S), (2, .ref m), (3, .ref ob), (4, .int (nI i))] [.int v] h1 n1 cu su
  refine y_aload_n 2 dL_law_895 rfl rfl ?_
  refine y_aload_n 0 dL_law_896 rfl rfl ?_
  refine y_iload 4 dL_law_897 rfl ?_
  refine y_iconst (v := (nI 1)) dL_law_899 rfl ?_
  refine y_iaddN dL_law_900 ?_
  refine y_sld (fun _ _ _ z => z.2.1) dL_law_901 rfl (by omega) hN ?_
  refine y_aload_n 0 dL_law_902 rfl rfl ?_
  refine y_iload 4 dL_law_903 rfl ?_
  refine y_iconst (v := (nI 2)) dL_law_905 rfl ?_
  refine y_iaddN dL_law_906 ?_
  refine y_sld (fun _ _ _ z => z.2.1) dL_law_907 rfl (by omega) hN ?_
  refine y_aload_n 0 dL_law_908 rfl rfl ?_
  refine y_iload 4 dL_law_909 rfl ?_
  refine y_iconst (v := (nI 3)) dL_law_911 rfl ?_
  refine y_iaddN dL_law_912 ?_
  refine y_sld (fun _ _ _ z => z.2.1) dL_law_913 rfl (by omega) hN ?_
  refine y_aload_n 0 dL_law_914 rfl rfl ?_
  refine y_iload 4 dL_law_915 rfl ?_
  refine y_iconst (v := (nI 4)) dL_law_917 rfl ?_
  refine y_iaddN dL_law_918 ?_
  refine y_sld (fun _ _ _ z => z.2.1) dL_law_919 rfl (by omega) hN ?_
  refine y_i2l dL_law_920 ?_
  refine y_bipush (v := (nI 32)) dL_law_921 rfl ?_
  refine y_lshl dL_law_923 ?_
  refine y_aload_n 0 dL_law_924 rfl rfl ?_
  refine y_iload 4 dL_law_925 rfl ?_
  refine y_iconst (v := (nI 5)) dL_law_927 rfl ?_
  refine y_iaddN dL_law_928 ?_
  refine y_sld (fun _ _ _ z => z.2.1) dL_law_929 rfl (by omega) hN ?_
  refine y_i2l dL_law_930 ?_
  refine y_ldc2 (v := (lN 4294967295)) wL_L_74 dL_law_931 ?_
  refine y_land dL_law_934 ?_
  refine y_lor dL_law_935 ?_
  refine y_aload_n 0 dL_law_936 rfl rfl ?_
  refine y_iload 4 dL_law_937 rfl ?_
  refine y_bipush (v := (nI 6)) dL_law_939 rfl ?_
  refine y_iaddN dL_law_941 ?_
  refine y_sld (fun _ _ _ z => z.2.1) dL_law_942 rfl (by omega) hN ?_
  refine y_i2l dL_law_943 ?_
  refine y_bipush (v := (nI 32)) dL_law_944 rfl ?_
  refine y_lshl dL_law_946 ?_
  refine y_aload_n 0 dL_law_947 rfl rfl ?_
  refine y_iload 4 dL_law_948 rfl ?_
  refine y_bipush (v := (nI 7)) dL_law_950 rfl ?_
  refine y_iaddN dL_law_952 ?_
  refine y_sld (fun _ _ _ z => z.2.1) dL_law_953 rfl (by omega) hN ?_
  refine y_i2l dL_law_954 ?_
  refine y_ldc2 (v := (lN 4294967295)) wL_L_74 dL_law_955 ?_
  refine y_land dL_law_958 ?_
  refine y_lor dL_law_959 ?_
  refine y_callV (M2 := M_X10_event) (ci := 11) (n := 5) (As := [.int (xs (i + 1)), .int (xs (i + 2)), .int (xs (i + 3)), .long (((xs (i + 4)).toInt64 <<< ((nI 32).toInt64 &&& 63)) ||| ((xs (i + 5)).toInt64 &&& (lN 4294967295))), .long (((xs (i + 6)).toInt64 <<< ((nI 32).toInt64 &&& 63)) ||| ((xs (i + 7)).toInt64 &&& (lN 4294967295)))]) rfl (wl5 wM_L_89 wi_X10_event wS_X10_event wI_StateSharesModel wc_X10_event) (by decide +kernel) (by decide) rfl rfl (Nat.le_of_ble_eq_true rfl) dL_law_960 hm (by show cu + 0 ≤ 601024; omega) (by show su + 0 ≤ 7293000; omega) (Ct.imp V (fun r h2 n2 V => ?_))
  obtain ⟨rfl, hn2, hV⟩ := V
  subst hn2
  show BlkY g M_L_law (KL g b N xs) lw_Z 963 [(0, .ref b), (1, .ref S), (2, .ref m), (3, .ref ob), (4, .int (nI i))] [.int v, .int v] h2 n2 cu su
  exact y_icmp_eq (tgt := 1505) dL_law_963 (by decide) (fun _ => k h2 hV) (fun c => absurd rfl c)
set_option maxRecDepth 20000 in
theorem lc_sums {g : xG} {b N S m ob n i nx cu su : Nat} {xs : Nat → Int32} {h : xHp} {fs : List Value} (hN : N < 2 ^ 31) (hi : i + 8 ≤ N) (hc : cu + 2 ≤ 601024) (hs : su + 12 ≤ 7293000) (hS : h S = some (xo 10 fs)) (P : PairI g M_X9_sums M_X10_sums [.int (xs (i + 1))] S m ob n h nx) (k : ∀ h2, Inv h2 S m ob n → BlkY g M_L_law (KL g b N xs) lw_Z 1505 [(0, .ref b), (1, .ref S), (2, .ref m), (3, .ref ob), (4, .int (nI i))] [] h2 nx cu su) : BlkY g M_L_law (KL g b N xs) lw_Z 968 [(0, .ref b), (1, .ref S), (2, .ref m), (3, .ref ob), (4, .int (nI i))] [] h nx cu su := by
  refine y_aload_n 1 dL_law_968 rfl rfl ?_
  refine y_aload_n 0 dL_law_969 rfl rfl ?_
  refine y_iload 4 dL_law_970 rfl ?_
  refine y_iconst (v := (nI 1)) dL_law_972 rfl ?_
  refine y_iaddN dL_law_973 ?_
  refine y_sld (fun _ _ _ z => z.2.1) dL_law_974 rfl (by omega) hN ?_
  refine y_callV (M2 := M_X9_sums) (ci := 10) (n := 1) (As := [.int (xs (i + 1))]) rfl (wl5 wM_L_90 wi_X9_sums wS_X9_sums wI_StateShares wc_X9_sums) (by decide +kernel) (by decide) rfl rfl (Nat.le_of_ble_eq_true rfl) dL_law_975 hS (by show cu + 0 ≤ 601024; omega) (by show su + 0 ≤ 7293000; omega) (Ct.imp P (fun r h1 n1 V => ?_))
  obtain ⟨v, rfl, ⟨fs2, hm⟩, V⟩ := V
  show BlkY g M_L_law (KL g b N xs) lw_Z 978 [(0, .ref b), (1, .ref S), (2, .ref m), (3, .ref ob), (4, .int (nI i))] [.int v] h1 n1 cu su
  refine y_aload_n 2 dL_law_978 rfl rfl ?_
  refine y_aload_n 0 dL_law_979 rfl rfl ?_
  refine y_iload 4 dL_law_980 rfl ?_
  refine y_iconst (v := (nI 1)) dL_law_982 rfl ?_
  refine y_iaddN dL_law_983 ?_
  refine y_sld (fun _ _ _ z => z.2.1) dL_law_984 rfl (by omega) hN ?_
  refine y_callV (M2 := M_X10_sums) (ci := 11) (n := 1) (As := [.int (xs (i + 1))]) rfl (wl5 wM_L_93 wi_X10_sums wS_X10_sums wI_StateSharesModel wc_X10_sums) (by decide +kernel) (by decide) rfl rfl (Nat.le_of_ble_eq_true rfl) dL_law_985 hm (by show cu + 0 ≤ 601024; omega) (by show su + 0 ≤ 7293000; omega) (Ct.imp V (fun r h2 n2 V => ?_))
  obtain ⟨rfl, hn2, hV⟩ := V
  subst hn2
  show BlkY g M_L_law (KL g b N xs) lw_Z 988 [(0, .ref b), (1, .ref S), (2, .ref m), (3, .ref ob), (4, .int (nI i))] [.int v, .int v] h2 n2 cu su
  exact y_icmp_eq (tgt := 1505) dL_law_988 (by decide) (fun _ => k h2 hV) (fun c => absurd rfl c)
set_option maxRecDepth 20000 in
theorem lc_drawn {g : xG} {b N S m ob n i nx cu su : Nat} {xs : Nat → Int32} {h : xHp} {fs : List Value} (hN : N < 2 ^ 31) (hi : i + 8 ≤ N) (hc : cu + 2 ≤ 601024) (hs : su + 12 ≤ 7293000) (hS : h S = some (xo 10 fs)) (P : PairI g M_X9_drawn M_X10_drawn [.long (((xs (i + 1)).toInt64 <<< ((nI 32).toInt64 &&& 63)) ||| ((xs (i + 2)).toInt64 &&& (lN 4294967295))), .int (xs (i + 3)), .int (xs (i + 4))] S m ob n h nx) (k : ∀ h2, Inv h2 S m ob n → BlkY g M_L_law (KL g b N xs) lw_Z 1505 [(0, .ref b), (1, .ref S), (2, .ref m), (3, .ref ob), (4, .int (nI i))] [] h2 nx cu su) : BlkY g M_L_law (KL g b N xs) lw_Z 993 [(0, .ref b), (1, .ref S), (2, .ref m), (3, .ref ob), (4, .int (nI i))] [] h nx cu su := by
  refine y_aload_n 1 dL_law_993 rfl rfl ?_
  refine y_aload_n 0 dL_law_994 rfl rfl ?_
  refine y_iload 4 dL_law_995 rfl ?_
  refine y_iconst (v := (nI 1)) dL_law_997 rfl ?_
  refine y_iaddN dL_law_998 ?_
  refine y_sld (fun _ _ _ z => z.2.1) dL_law_999 rfl (by omega) hN ?_
  refine y_i2l dL_law_1000 ?_
  refine y_bipush (v := (nI 32)) dL_law_1001 rfl ?_
  refine y_lshl dL_law_1003 ?_
  refine y_aload_n 0 dL_law_1004 rfl rfl ?_
  refine y_iload 4 dL_law_1005 rfl ?_
  refine y_iconst (v := (nI 2)) dL_law_1007 rfl ?_
  refine y_iaddN dL_law_1008 ?_
  refine y_sld (fun _ _ _ z => z.2.1) dL_law_1009 rfl (by omega) hN ?_
  refine y_i2l dL_law_1010 ?_
  refine y_ldc2 (v := (lN 4294967295)) wL_L_74 dL_law_1011 ?_
  refine y_land dL_law_1014 ?_
  refine y_lor dL_law_1015 ?_
  refine y_aload_n 0 dL_law_1016 rfl rfl ?_
  refine y_iload 4 dL_law_1017 rfl ?_
  refine y_iconst (v := (nI 3)) dL_law_1019 rfl ?_
  refine y_iaddN dL_law_1020 ?_
  refine y_sld (fun _ _ _ z => z.2.1) dL_law_1021 rfl (by omega) hN ?_
  refine y_aload_n 0 dL_law_1022 rfl rfl ?_
  refine y_iload 4 dL_law_1023 rfl ?_
  refine y_iconst (v := (nI 4)) dL_law_1025 rfl ?_
  refine y_iaddN dL_law_1026 ?_
  refine y_sld (fun _ _ _ z => z.2.1) dL_law_1027 rfl (by omega) hN ?_
  refine y_callV (M2 := M_X9_drawn) (ci := 10) (n := 3) (As := [.long (((xs (i + 1)).toInt64 <<< ((nI 32).toInt64 &&& 63)) ||| ((xs (i + 2)).toInt64 &&& (lN 4294967295))), .int (xs (i + 3)), .int (xs (i + 4))]) rfl (wl5 wM_L_94 wi_X9_drawn wS_X9_drawn wI_StateShares wc_X9_drawn) (by decide +kernel) (by decide) rfl rfl (Nat.le_of_ble_eq_true rfl) dL_law_1028 hS (by show cu + 0 ≤ 601024; omega) (by show su + 0 ≤ 7293000; omega) (Ct.imp P (fun r h1 n1 V => ?_))
  obtain ⟨v, rfl, ⟨fs2, hm⟩, V⟩ := V
  show BlkY g M_L_law (KL g b N xs) lw_Z 1031 [(0, .ref b), (1, .ref S), (2, .ref m), (3, .ref ob), (4, .int (nI i))] [.int v] h1 n1 cu su
  refine y_aload_n 2 dL_law_1031 rfl rfl ?_
  refine y_aload_n 0 dL_law_1032 rfl rfl ?_
  refine y_iload 4 dL_law_1033 rfl ?_
  refine y_iconst (v := (nI 1)) dL_law_1035 rfl ?_
  refine y_iaddN dL_law_1036 ?_
  refine y_sld (fun _ _ _ z => z.2.1) dL_law_1037 rfl (by omega) hN ?_
  refine y_i2l dL_law_1038 ?_
  refine y_bipush (v := (nI 32)) dL_law_1039 rfl ?_
  refine y_lshl dL_law_1041 ?_
  refine y_aload_n 0 dL_law_1042 rfl rfl ?_
  refine y_iload 4 dL_law_1043 rfl ?_
  refine y_iconst (v := (nI 2)) dL_law_1045 rfl ?_
  refine y_iaddN dL_law_1046 ?_
  refine y_sld (fun _ _ _ z => z.2.1) dL_law_1047 rfl (by omega) hN ?_
  refine y_i2l dL_law_1048 ?_
  refine y_ldc2 (v := (lN 4294967295)) wL_L_74 dL_law_1049 ?_
  refine y_land dL_law_1052 ?_
  refine y_lor dL_law_1053 ?_
  refine y_aload_n 0 dL_law_1054 rfl rfl ?_
  refine y_iload 4 dL_law_1055 rfl ?_
  refine y_iconst (v := (nI 3)) dL_law_1057 rfl ?_
  refine y_iaddN dL_law_1058 ?_
  refine y_sld (fun _ _ _ z => z.2.1) dL_law_1059 rfl (by omega) hN ?_
  refine y_aload_n 0 dL_law_1060 rfl rfl ?_
  refine y_iload 4 dL_law_1061 rfl ?_
  refine y_iconst (v := (nI 4)) dL_law_1063 rfl ?_
  refine y_iaddN dL_law_1064 ?_
  refine y_sld (fun _ _ _ z => z.2.1) dL_law_1065 rfl (by omega) hN ?_
  refine y_callV (M2 := M_X10_drawn) (ci := 11) (n := 3) (As := [.long (((xs (i + 1)).toInt64 <<< ((nI 32).toInt64 &&& 63)) ||| ((xs (i + 2)).toInt64 &&& (lN 4294967295))), .int (xs (i + 3)), .int (xs (i + 4))]) rfl (wl5 wM_L_98 wi_X10_drawn wS_X10_drawn wI_StateSharesModel wc_X10_drawn) (by decide +kernel) (by decide) rfl rfl (Nat.le_of_ble_eq_true rfl) dL_law_1066 hm (by show cu + 0 ≤ 601024; omega) (by show su + 0 ≤ 7293000; omega) (Ct.imp V (fun r h2 n2 V => ?_))
  obtain ⟨rfl, hn2, hV⟩ := V
  subst hn2
  show BlkY g M_L_law (KL g b N xs) lw_Z 1069 [(0, .ref b), (1, .ref S), (2, .ref m), (3, .ref ob), (4, .int (nI i))] [.int v, .int v] h2 n2 cu su
  exact y_icmp_eq (tgt := 1505) dL_law_1069 (by decide) (fun _ => k h2 hV) (fun c => absurd rfl c)
set_option maxRecDepth 20000 in
theorem lc_span {g : xG} {b N S m ob n i nx cu su : Nat} {xs : Nat → Int32} {h : xHp} {fs : List Value} (hN : N < 2 ^ 31) (hi : i + 8 ≤ N) (hc : cu + 2 ≤ 601024) (hs : su + 12 ≤ 7293000) (hS : h S = some (xo 10 fs)) (P : PairL g M_X9_span M_X10_span [.int (xs (i + 1)), .int (xs (i + 2)), .int (xs (i + 3)), .int (xs (i + 4))] S m ob n h nx) (k : ∀ h2, Inv h2 S m ob n → BlkY g M_L_law (KL g b N xs) lw_Z 1505 [(0, .ref b), (1, .ref S), (2, .ref m), (3, .ref ob), (4, .int (nI i))] [] h2 nx cu su) : BlkY g M_L_law (KL g b N xs) lw_Z 1074 [(0, .ref b), (1, .ref S), (2, .ref m), (3, .ref ob), (4, .int (nI i))] [] h nx cu su := by
  refine y_aload_n 1 dL_law_1074 rfl rfl ?_
  refine y_aload_n 0 dL_law_1075 rfl rfl ?_
  refine y_iload 4 dL_law_1076 rfl ?_
  refine y_iconst (v := (nI 1)) dL_law_1078 rfl ?_
  refine y_iaddN dL_law_1079 ?_
  refine y_sld (fun _ _ _ z => z.2.1) dL_law_1080 rfl (by omega) hN ?_
  refine y_aload_n 0 dL_law_1081 rfl rfl ?_
  refine y_iload 4 dL_law_1082 rfl ?_
  refine y_iconst (v := (nI 2)) dL_law_1084 rfl ?_
  refine y_iaddN dL_law_1085 ?_
  refine y_sld (fun _ _ _ z => z.2.1) dL_law_1086 rfl (by omega) hN ?_
  refine y_aload_n 0 dL_law_1087 rfl rfl ?_
  refine y_iload 4 dL_law_1088 rfl ?_
  refine y_iconst (v := (nI 3)) dL_law_1090 rfl ?_
  refine y_iaddN dL_law_1091 ?_
  refine y_sld (fun _ _ _ z => z.2.1) dL_law_1092 rfl (by omega) hN ?_
  refine y_aload_n 0 dL_law_1093 rfl rfl ?_
  refine y_iload 4 dL_law_1094 rfl ?_
  refine y_iconst (v := (nI 4)) dL_law_1096 rfl ?_
  refine y_iaddN dL_law_1097 ?_
  refine y_sld (fun _ _ _ z => z.2.1) dL_law_1098 rfl (by omega) hN ?_
  refine y_callV (M2 := M_X9_span) (ci := 10) (n := 4) (As := [.int (xs (i + 1)), .int (xs (i + 2)), .int (xs (i + 3)), .int (xs (i + 4))]) rfl (wl5 wM_L_99 wi_X9_span wS_X9_span wI_StateShares wc_X9_span) (by decide +kernel) (by decide) rfl rfl (Nat.le_of_ble_eq_true rfl) dL_law_1099 hS (by show cu + 0 ≤ 601024; omega) (by show su + 0 ≤ 7293000; omega) (Ct.imp P (fun r h1 n1 V => ?_))
  obtain ⟨v, rfl, ⟨fs2, hm⟩, V⟩ := V
  show BlkY g M_L_law (KL g b N xs) lw_Z 1102 [(0, .ref b), (1, .ref S), (2, .ref m), (3, .ref ob), (4, .int (nI i))] [.long v] h1 n1 cu su
  refine y_aload_n 2 dL_law_1102 rfl rfl ?_
  refine y_aload_n 0 dL_law_1103 rfl rfl ?_
  refine y_iload 4 dL_law_1104 rfl ?_
  refine y_iconst (v := (nI 1)) dL_law_1106 rfl ?_
  refine y_iaddN dL_law_1107 ?_
  refine y_sld (fun _ _ _ z => z.2.1) dL_law_1108 rfl (by omega) hN ?_
  refine y_aload_n 0 dL_law_1109 rfl rfl ?_
  refine y_iload 4 dL_law_1110 rfl ?_
  refine y_iconst (v := (nI 2)) dL_law_1112 rfl ?_
  refine y_iaddN dL_law_1113 ?_
  refine y_sld (fun _ _ _ z => z.2.1) dL_law_1114 rfl (by omega) hN ?_
  refine y_aload_n 0 dL_law_1115 rfl rfl ?_
  refine y_iload 4 dL_law_1116 rfl ?_
  refine y_iconst (v := (nI 3)) dL_law_1118 rfl ?_
  refine y_iaddN dL_law_1119 ?_
  refine y_sld (fun _ _ _ z => z.2.1) dL_law_1120 rfl (by omega) hN ?_
  refine y_aload_n 0 dL_law_1121 rfl rfl ?_
  refine y_iload 4 dL_law_1122 rfl ?_
  refine y_iconst (v := (nI 4)) dL_law_1124 rfl ?_
  refine y_iaddN dL_law_1125 ?_
  refine y_sld (fun _ _ _ z => z.2.1) dL_law_1126 rfl (by omega) hN ?_
  refine y_callV (M2 := M_X10_span) (ci := 11) (n := 4) (As := [.int (xs (i + 1)), .int (xs (i + 2)), .int (xs (i + 3)), .int (xs (i + 4))]) rfl (wl5 wM_L_103 wi_X10_span wS_X10_span wI_StateSharesModel wc_X10_span) (by decide +kernel) (by decide) rfl rfl (Nat.le_of_ble_eq_true rfl) dL_law_1127 hm (by show cu + 0 ≤ 601024; omega) (by show su + 0 ≤ 7293000; omega) (Ct.imp V (fun r h2 n2 V => ?_))
  obtain ⟨rfl, hn2, hV⟩ := V
  subst hn2
  show BlkY g M_L_law (KL g b N xs) lw_Z 1130 [(0, .ref b), (1, .ref S), (2, .ref m), (3, .ref ob), (4, .int (nI i))] [.long v, .long v] h2 n2 cu su
  refine y_lcmp dL_law_1130 ?_
  exact y_if_eq (tgt := 1505) dL_law_1131 (by decide) (fun _ => k h2 hV) (fun c => absurd (lcmp_self v) c)
set_option maxRecDepth 20000 in
theorem lc_part2 {g : xG} {b N S m ob n i nx cu su : Nat} {xs : Nat → Int32} {h : xHp} {fs : List Value} (hN : N < 2 ^ 31) (hi : i + 8 ≤ N) (hc : cu + 2 ≤ 601024) (hs : su + 12 ≤ 7293000) (hS : h S = some (xo 10 fs)) (P : PairI g M_X9_part2 M_X10_part2 [.int (xs (i + 1)), .long (((xs (i + 2)).toInt64 <<< ((nI 32).toInt64 &&& 63)) ||| ((xs (i + 3)).toInt64 &&& (lN 4294967295)))] S m ob n h nx) (k : ∀ h2, Inv h2 S m ob n → BlkY g M_L_law (KL g b N xs) lw_Z 1505 [(0, .ref b), (1, .ref S), (2, .ref m), (3, .ref ob), (4, .int (nI i))] [] h2 nx cu su) : BlkY g M_L_law (KL g b N xs) lw_Z 1136 [(0, .ref b), (1, .ref S), (2, .ref m), (3, .ref ob), (4, .int (nI i))] [] h nx cu su := by
  refine y_aload_n 1 dL_law_1136 rfl rfl ?_
  refine y_aload_n 0 dL_law_1137 rfl rfl ?_
  refine y_iload 4 dL_law_1138 rfl ?_
  refine y_iconst (v := (nI 1)) dL_law_1140 rfl ?_
  refine y_iaddN dL_law_1141 ?_
  refine y_sld (fun _ _ _ z => z.2.1) dL_law_1142 rfl (by omega) hN ?_
  refine y_aload_n 0 dL_law_1143 rfl rfl ?_
  refine y_iload 4 dL_law_1144 rfl ?_
  refine y_iconst (v := (nI 2)) dL_law_1146 rfl ?_
  refine y_iaddN dL_law_1147 ?_
  refine y_sld (fun _ _ _ z => z.2.1) dL_law_1148 rfl (by omega) hN ?_
  refine y_i2l dL_law_1149 ?_
  refine y_bipush (v := (nI 32)) dL_law_1150 rfl ?_
  refine y_lshl dL_law_1152 ?_
  refine y_aload_n 0 dL_law_1153 rfl rfl ?_
  refine y_iload 4 dL_law_1154 rfl ?_
  refine y_iconst (v := (nI 3)) dL_law_1156 rfl ?_
  refine y_iaddN dL_law_1157 ?_
  refine y_sld (fun _ _ _ z => z.2.1) dL_law_1158 rfl (by omega) hN ?_
  refine y_i2l dL_law_1159 ?_
  refine y_ldc2 (v := (lN 4294967295)) wL_L_74 dL_law_1160 ?_
  refine y_land dL_law_1163 ?_
  refine y_lor dL_law_1164 ?_
  refine y_callV (M2 := M_X9_part2) (ci := 10) (n := 2) (As := [.int (xs (i + 1)), .long (((xs (i + 2)).toInt64 <<< ((nI 32).toInt64 &&& 63)) ||| ((xs (i + 3)).toInt64 &&& (lN 4294967295)))]) rfl (wl5 wM_L_104 wi_X9_part2 wS_X9_part2 wI_StateShares wc_X9_part2) (by decide +kernel) (by decide) rfl rfl (Nat.le_of_ble_eq_true rfl) dL_law_1165 hS (by show cu + 0 ≤ 601024; omega) (by show su + 0 ≤ 7293000; omega) (Ct.imp P (fun r h1 n1 V => ?_))
  obtain ⟨v, rfl, ⟨fs2, hm⟩, V⟩ := V
  show BlkY g M_L_law (KL g b N xs) lw_Z 1168 [(0, .ref b), (1, .ref S), (2, .ref m), (3, .ref ob), (4, .int (nI i))] [.int v] h1 n1 cu su
  refine y_aload_n 2 dL_law_1168 rfl rfl ?_
  refine y_aload_n 0 dL_law_1169 rfl rfl ?_
  refine y_iload 4 dL_law_1170 rfl ?_
  refine y_iconst (v := (nI 1)) dL_law_1172 rfl ?_
  refine y_iaddN dL_law_1173 ?_
  refine y_sld (fun _ _ _ z => z.2.1) dL_law_1174 rfl (by omega) hN ?_
  refine y_aload_n 0 dL_law_1175 rfl rfl ?_
  refine y_iload 4 dL_law_1176 rfl ?_
  refine y_iconst (v := (nI 2)) dL_law_1178 rfl ?_
  refine y_iaddN dL_law_1179 ?_
  refine y_sld (fun _ _ _ z => z.2.1) dL_law_1180 rfl (by omega) hN ?_
  refine y_i2l dL_law_1181 ?_
  refine y_bipush (v := (nI 32)) dL_law_1182 rfl ?_
  refine y_lshl dL_law_1184 ?_
  refine y_aload_n 0 dL_law_1185 rfl rfl ?_
  refine y_iload 4 dL_law_1186 rfl ?_
  refine y_iconst (v := (nI 3)) dL_law_1188 rfl ?_
  refine y_iaddN dL_law_1189 ?_
  refine y_sld (fun _ _ _ z => z.2.1) dL_law_1190 rfl (by omega) hN ?_
  refine y_i2l dL_law_1191 ?_
  refine y_ldc2 (v := (lN 4294967295)) wL_L_74 dL_law_1192 ?_
  refine y_land dL_law_1195 ?_
  refine y_lor dL_law_1196 ?_
  refine y_callV (M2 := M_X10_part2) (ci := 11) (n := 2) (As := [.int (xs (i + 1)), .long (((xs (i + 2)).toInt64 <<< ((nI 32).toInt64 &&& 63)) ||| ((xs (i + 3)).toInt64 &&& (lN 4294967295)))]) rfl (wl5 wM_L_108 wi_X10_part2 wS_X10_part2 wI_StateSharesModel wc_X10_part2) (by decide +kernel) (by decide) rfl rfl (Nat.le_of_ble_eq_true rfl) dL_law_1197 hm (by show cu + 0 ≤ 601024; omega) (by show su + 0 ≤ 7293000; omega) (Ct.imp V (fun r h2 n2 V => ?_))
  obtain ⟨rfl, hn2, hV⟩ := V
  subst hn2
  show BlkY g M_L_law (KL g b N xs) lw_Z 1200 [(0, .ref b), (1, .ref S), (2, .ref m), (3, .ref ob), (4, .int (nI i))] [.int v, .int v] h2 n2 cu su
  exact y_icmp_eq (tgt := 1505) dL_law_1200 (by decide) (fun _ => k h2 hV) (fun c => absurd rfl c)
set_option maxRecDepth 20000 in
theorem lc_worth {g : xG} {b N S m ob n i nx cu su : Nat} {xs : Nat → Int32} {h : xHp} {fs : List Value} (hN : N < 2 ^ 31) (hi : i + 8 ≤ N) (hc : cu + 2 ≤ 601024) (hs : su + 12 ≤ 7293000) (hS : h S = some (xo 10 fs)) (P : PairL g M_X9_worth M_X10_worth [.int (xs (i + 1)), .int (xs (i + 2))] S m ob n h nx) (k : ∀ h2, Inv h2 S m ob n → BlkY g M_L_law (KL g b N xs) lw_Z 1505 [(0, .ref b), (1, .ref S), (2, .ref m), (3, .ref ob), (4, .int (nI i))] [] h2 nx cu su) : BlkY g M_L_law (KL g b N xs) lw_Z 1205 [(0, .ref b), (1, .ref S), (2, .ref m), (3, .ref ob), (4, .int (nI i))] [] h nx cu su := by
  refine y_aload_n 1 dL_law_1205 rfl rfl ?_
  refine y_aload_n 0 dL_law_1206 rfl rfl ?_
  refine y_iload 4 dL_law_1207 rfl ?_
  refine y_iconst (v := (nI 1)) dL_law_1209 rfl ?_
  refine y_iaddN dL_law_1210 ?_
  refine y_sld (fun _ _ _ z => z.2.1) dL_law_1211 rfl (by omega) hN ?_
  refine y_aload_n 0 dL_law_1212 rfl rfl ?_
  refine y_iload 4 dL_law_1213 rfl ?_
  refine y_iconst (v := (nI 2)) dL_law_1215 rfl ?_
  refine y_iaddN dL_law_1216 ?_
  refine y_sld (fun _ _ _ z => z.2.1) dL_law_1217 rfl (by omega) hN ?_
  refine y_callV (M2 := M_X9_worth) (ci := 10) (n := 2) (As := [.int (xs (i + 1)), .int (xs (i + 2))]) rfl (wl5 wM_L_109 wi_X9_worth wS_X9_worth wI_StateShares wc_X9_worth) (by decide +kernel) (by decide) rfl rfl (Nat.le_of_ble_eq_true rfl) dL_law_1218 hS (by show cu + 0 ≤ 601024; omega) (by show su + 0 ≤ 7293000; omega) (Ct.imp P (fun r h1 n1 V => ?_))
  obtain ⟨v, rfl, ⟨fs2, hm⟩, V⟩ := V
  show BlkY g M_L_law (KL g b N xs) lw_Z 1221 [(0, .ref b), (1, .ref S), (2, .ref m), (3, .ref ob), (4, .int (nI i))] [.long v] h1 n1 cu su
  refine y_aload_n 2 dL_law_1221 rfl rfl ?_
  refine y_aload_n 0 dL_law_1222 rfl rfl ?_
  refine y_iload 4 dL_law_1223 rfl ?_
  refine y_iconst (v := (nI 1)) dL_law_1225 rfl ?_
  refine y_iaddN dL_law_1226 ?_
  refine y_sld (fun _ _ _ z => z.2.1) dL_law_1227 rfl (by omega) hN ?_
  refine y_aload_n 0 dL_law_1228 rfl rfl ?_
  refine y_iload 4 dL_law_1229 rfl ?_
  refine y_iconst (v := (nI 2)) dL_law_1231 rfl ?_
  refine y_iaddN dL_law_1232 ?_
  refine y_sld (fun _ _ _ z => z.2.1) dL_law_1233 rfl (by omega) hN ?_
  refine y_callV (M2 := M_X10_worth) (ci := 11) (n := 2) (As := [.int (xs (i + 1)), .int (xs (i + 2))]) rfl (wl5 wM_L_113 wi_X10_worth wS_X10_worth wI_StateSharesModel wc_X10_worth) (by decide +kernel) (by decide) rfl rfl (Nat.le_of_ble_eq_true rfl) dL_law_1234 hm (by show cu + 0 ≤ 601024; omega) (by show su + 0 ≤ 7293000; omega) (Ct.imp V (fun r h2 n2 V => ?_))
  obtain ⟨rfl, hn2, hV⟩ := V
  subst hn2
  show BlkY g M_L_law (KL g b N xs) lw_Z 1237 [(0, .ref b), (1, .ref S), (2, .ref m), (3, .ref ob), (4, .int (nI i))] [.long v, .long v] h2 n2 cu su
  refine y_lcmp dL_law_1237 ?_
  exact y_if_eq (tgt := 1505) dL_law_1238 (by decide) (fun _ => k h2 hV) (fun c => absurd (lcmp_self v) c)
set_option maxRecDepth 20000 in
theorem lc_agree {g : xG} {b N S m ob n i nx cu su : Nat} {xs : Nat → Int32} {h : xHp} {fs : List Value} (hN : N < 2 ^ 31) (hi : i + 8 ≤ N) (hc : cu + 2 ≤ 601024) (hs : su + 12 ≤ 7293000) (hS : h S = some (xo 10 fs)) (P : PairL g M_X9_agree M_X10_agree [.int (xs (i + 1)), .int (xs (i + 2)), .int (xs (i + 3))] S m ob n h nx) (k : ∀ h2, Inv h2 S m ob n → BlkY g M_L_law (KL g b N xs) lw_Z 1505 [(0, .ref b), (1, .ref S), (2, .ref m), (3, .ref ob), (4, .int (nI i))] [] h2 nx cu su) : BlkY g M_L_law (KL g b N xs) lw_Z 1243 [(0, .ref b), (1, .ref S), (2, .ref m), (3, .ref ob), (4, .int (nI i))] [] h nx cu su := by
  refine y_aload_n 1 dL_law_1243 rfl rfl ?_
  refine y_aload_n 0 dL_law_1244 rfl rfl ?_
  refine y_iload 4 dL_law_1245 rfl ?_
  refine y_iconst (v := (nI 1)) dL_law_1247 rfl ?_
  refine y_iaddN dL_law_1248 ?_
  refine y_sld (fun _ _ _ z => z.2.1) dL_law_1249 rfl (by omega) hN ?_
  refine y_aload_n 0 dL_law_1250 rfl rfl ?_
  refine y_iload 4 dL_law_1251 rfl ?_
  refine y_iconst (v := (nI 2)) dL_law_1253 rfl ?_
  refine y_iaddN dL_law_1254 ?_
  refine y_sld (fun _ _ _ z => z.2.1) dL_law_1255 rfl (by omega) hN ?_
  refine y_aload_n 0 dL_law_1256 rfl rfl ?_
  refine y_iload 4 dL_law_1257 rfl ?_
  refine y_iconst (v := (nI 3)) dL_law_1259 rfl ?_
  refine y_iaddN dL_law_1260 ?_
  refine y_sld (fun _ _ _ z => z.2.1) dL_law_1261 rfl (by omega) hN ?_
  refine y_callV (M2 := M_X9_agree) (ci := 10) (n := 3) (As := [.int (xs (i + 1)), .int (xs (i + 2)), .int (xs (i + 3))]) rfl (wl5 wM_L_114 wi_X9_agree wS_X9_agree wI_StateShares wc_X9_agree) (by decide +kernel) (by decide) rfl rfl (Nat.le_of_ble_eq_true rfl) dL_law_1262 hS (by show cu + 0 ≤ 601024; omega) (by show su + 0 ≤ 7293000; omega) (Ct.imp P (fun r h1 n1 V => ?_))
  obtain ⟨v, rfl, ⟨fs2, hm⟩, V⟩ := V
  show BlkY g M_L_law (KL g b N xs) lw_Z 1265 [(0, .ref b), (1, .ref S), (2, .ref m), (3, .ref ob), (4, .int (nI i))] [.long v] h1 n1 cu su
  refine y_aload_n 2 dL_law_1265 rfl rfl ?_
  refine y_aload_n 0 dL_law_1266 rfl rfl ?_
  refine y_iload 4 dL_law_1267 rfl ?_
  refine y_iconst (v := (nI 1)) dL_law_1269 rfl ?_
  refine y_iaddN dL_law_1270 ?_
  refine y_sld (fun _ _ _ z => z.2.1) dL_law_1271 rfl (by omega) hN ?_
  refine y_aload_n 0 dL_law_1272 rfl rfl ?_
  refine y_iload 4 dL_law_1273 rfl ?_
  refine y_iconst (v := (nI 2)) dL_law_1275 rfl ?_
  refine y_iaddN dL_law_1276 ?_
  refine y_sld (fun _ _ _ z => z.2.1) dL_law_1277 rfl (by omega) hN ?_
  refine y_aload_n 0 dL_law_1278 rfl rfl ?_
  refine y_iload 4 dL_law_1279 rfl ?_
  refine y_iconst (v := (nI 3)) dL_law_1281 rfl ?_
  refine y_iaddN dL_law_1282 ?_
  refine y_sld (fun _ _ _ z => z.2.1) dL_law_1283 rfl (by omega) hN ?_
  refine y_callV (M2 := M_X10_agree) (ci := 11) (n := 3) (As := [.int (xs (i + 1)), .int (xs (i + 2)), .int (xs (i + 3))]) rfl (wl5 wM_L_117 wi_X10_agree wS_X10_agree wI_StateSharesModel wc_X10_agree) (by decide +kernel) (by decide) rfl rfl (Nat.le_of_ble_eq_true rfl) dL_law_1284 hm (by show cu + 0 ≤ 601024; omega) (by show su + 0 ≤ 7293000; omega) (Ct.imp V (fun r h2 n2 V => ?_))
  obtain ⟨rfl, hn2, hV⟩ := V
  subst hn2
  show BlkY g M_L_law (KL g b N xs) lw_Z 1287 [(0, .ref b), (1, .ref S), (2, .ref m), (3, .ref ob), (4, .int (nI i))] [.long v, .long v] h2 n2 cu su
  refine y_lcmp dL_law_1287 ?_
  exact y_if_eq (tgt := 1505) dL_law_1288 (by decide) (fun _ => k h2 hV) (fun c => absurd (lcmp_self v) c)
set_option maxRecDepth 20000 in
theorem lc_joined {g : xG} {b N S m ob n i nx cu su : Nat} {xs : Nat → Int32} {h : xHp} {fs : List Value} (hN : N < 2 ^ 31) (hi : i + 8 ≤ N) (hc : cu + 2 ≤ 601024) (hs : su + 12 ≤ 7293000) (hS : h S = some (xo 10 fs)) (P : PairI g M_X9_joined M_X10_joined [.int (xs (i + 1)), .int (xs (i + 2))] S m ob n h nx) (k : ∀ h2, Inv h2 S m ob n → BlkY g M_L_law (KL g b N xs) lw_Z 1505 [(0, .ref b), (1, .ref S), (2, .ref m), (3, .ref ob), (4, .int (nI i))] [] h2 nx cu su) : BlkY g M_L_law (KL g b N xs) lw_Z 1293 [(0, .ref b), (1, .ref S), (2, .ref m), (3, .ref ob), (4, .int (nI i))] [] h nx cu su := by
  refine y_aload_n 1 dL_law_1293 rfl rfl ?_
  refine y_aload_n 0 dL_law_1294 rfl rfl ?_
  refine y_iload 4 dL_law_1295 rfl ?_
  refine y_iconst (v := (nI 1)) dL_law_1297 rfl ?_
  refine y_iaddN dL_law_1298 ?_
  refine y_sld (fun _ _ _ z => z.2.1) dL_law_1299 rfl (by omega) hN ?_
  refine y_aload_n 0 dL_law_1300 rfl rfl ?_
  refine y_iload 4 dL_law_1301 rfl ?_
  refine y_iconst (v := (nI 2)) dL_law_1303 rfl ?_
  refine y_iaddN dL_law_1304 ?_
  refine y_sld (fun _ _ _ z => z.2.1) dL_law_1305 rfl (by omega) hN ?_
  refine y_callV (M2 := M_X9_joined) (ci := 10) (n := 2) (As := [.int (xs (i + 1)), .int (xs (i + 2))]) rfl (wl5 wM_L_118 wi_X9_joined wS_X9_joined wI_StateShares wc_X9_joined) (by decide +kernel) (by decide) rfl rfl (Nat.le_of_ble_eq_true rfl) dL_law_1306 hS (by show cu + 0 ≤ 601024; omega) (by show su + 0 ≤ 7293000; omega) (Ct.imp P (fun r h1 n1 V => ?_))
  obtain ⟨v, rfl, ⟨fs2, hm⟩, V⟩ := V
  show BlkY g M_L_law (KL g b N xs) lw_Z 1309 [(0, .ref b), (1, .ref S), (2, .ref m), (3, .ref ob), (4, .int (nI i))] [.int v] h1 n1 cu su
  refine y_aload_n 2 dL_law_1309 rfl rfl ?_
  refine y_aload_n 0 dL_law_1310 rfl rfl ?_
  refine y_iload 4 dL_law_1311 rfl ?_
  refine y_iconst (v := (nI 1)) dL_law_1313 rfl ?_
  refine y_iaddN dL_law_1314 ?_
  refine y_sld (fun _ _ _ z => z.2.1) dL_law_1315 rfl (by omega) hN ?_
  refine y_aload_n 0 dL_law_1316 rfl rfl ?_
  refine y_iload 4 dL_law_1317 rfl ?_
  refine y_iconst (v := (nI 2)) dL_law_1319 rfl ?_
  refine y_iaddN dL_law_1320 ?_
  refine y_sld (fun _ _ _ z => z.2.1) dL_law_1321 rfl (by omega) hN ?_
  refine y_callV (M2 := M_X10_joined) (ci := 11) (n := 2) (As := [.int (xs (i + 1)), .int (xs (i + 2))]) rfl (wl5 wM_L_121 wi_X10_joined wS_X10_joined wI_StateSharesModel wc_X10_joined) (by decide +kernel) (by decide) rfl rfl (Nat.le_of_ble_eq_true rfl) dL_law_1322 hm (by show cu + 0 ≤ 601024; omega) (by show su + 0 ≤ 7293000; omega) (Ct.imp V (fun r h2 n2 V => ?_))
  obtain ⟨rfl, hn2, hV⟩ := V
  subst hn2
  show BlkY g M_L_law (KL g b N xs) lw_Z 1325 [(0, .ref b), (1, .ref S), (2, .ref m), (3, .ref ob), (4, .int (nI i))] [.int v, .int v] h2 n2 cu su
  exact y_icmp_eq (tgt := 1505) dL_law_1325 (by decide) (fun _ => k h2 hV) (fun c => absurd rfl c)
set_option maxRecDepth 20000 in
theorem lc_target {g : xG} {b N S m ob n i nx cu su : Nat} {xs : Nat → Int32} {h : xHp} {fs : List Value} (hN : N < 2 ^ 31) (hi : i + 8 ≤ N) (hc : cu + 2 ≤ 601024) (hs : su + 12 ≤ 7293000) (hS : h S = some (xo 10 fs)) (P : PairI g M_X9_target M_X10_target [.int (xs (i + 1)), .long (((xs (i + 2)).toInt64 <<< ((nI 32).toInt64 &&& 63)) ||| ((xs (i + 3)).toInt64 &&& (lN 4294967295))), .long (((xs (i + 4)).toInt64 <<< ((nI 32).toInt64 &&& 63)) ||| ((xs (i + 5)).toInt64 &&& (lN 4294967295)))] S m ob n h nx) (k : ∀ h2, Inv h2 S m ob n → BlkY g M_L_law (KL g b N xs) lw_Z 1505 [(0, .ref b), (1, .ref S), (2, .ref m), (3, .ref ob), (4, .int (nI i))] [] h2 nx cu su) : BlkY g M_L_law (KL g b N xs) lw_Z 1330 [(0, .ref b), (1, .ref S), (2, .ref m), (3, .ref ob), (4, .int (nI i))] [] h nx cu su := by
  refine y_aload_n 1 dL_law_1330 rfl rfl ?_
  refine y_aload_n 0 dL_law_1331 rfl rfl ?_
  refine y_iload 4 dL_law_1332 rfl ?_
  refine y_iconst (v := (nI 1)) dL_law_1334 rfl ?_
  refine y_iaddN dL_law_1335 ?_
  refine y_sld (fun _ _ _ z => z.2.1) dL_law_1336 rfl (by omega) hN ?_
  refine y_aload_n 0 dL_law_1337 rfl rfl ?_
  refine y_iload 4 dL_law_1338 rfl ?_
  refine y_iconst (v := (nI 2)) dL_law_1340 rfl ?_
  refine y_iaddN dL_law_1341 ?_
  refine y_sld (fun _ _ _ z => z.2.1) dL_law_1342 rfl (by omega) hN ?_
  refine y_i2l dL_law_1343 ?_
  refine y_bipush (v := (nI 32)) dL_law_1344 rfl ?_
  refine y_lshl dL_law_1346 ?_
  refine y_aload_n 0 dL_law_1347 rfl rfl ?_
  refine y_iload 4 dL_law_1348 rfl ?_
  refine y_iconst (v := (nI 3)) dL_law_1350 rfl ?_
  refine y_iaddN dL_law_1351 ?_
  refine y_sld (fun _ _ _ z => z.2.1) dL_law_1352 rfl (by omega) hN ?_
  refine y_i2l dL_law_1353 ?_
  refine y_ldc2 (v := (lN 4294967295)) wL_L_74 dL_law_1354 ?_
  refine y_land dL_law_1357 ?_
  refine y_lor dL_law_1358 ?_
  refine y_aload_n 0 dL_law_1359 rfl rfl ?_
  refine y_iload 4 dL_law_1360 rfl ?_
  refine y_iconst (v := (nI 4)) dL_law_1362 rfl ?_
  refine y_iaddN dL_law_1363 ?_
  refine y_sld (fun _ _ _ z => z.2.1) dL_law_1364 rfl (by omega) hN ?_
  refine y_i2l dL_law_1365 ?_
  refine y_bipush (v := (nI 32)) dL_law_1366 rfl ?_
  refine y_lshl dL_law_1368 ?_
  refine y_aload_n 0 dL_law_1369 rfl rfl ?_
  refine y_iload 4 dL_law_1370 rfl ?_
  refine y_iconst (v := (nI 5)) dL_law_1372 rfl ?_
  refine y_iaddN dL_law_1373 ?_
  refine y_sld (fun _ _ _ z => z.2.1) dL_law_1374 rfl (by omega) hN ?_
  refine y_i2l dL_law_1375 ?_
  refine y_ldc2 (v := (lN 4294967295)) wL_L_74 dL_law_1376 ?_
  refine y_land dL_law_1379 ?_
  refine y_lor dL_law_1380 ?_
  refine y_callV (M2 := M_X9_target) (ci := 10) (n := 3) (As := [.int (xs (i + 1)), .long (((xs (i + 2)).toInt64 <<< ((nI 32).toInt64 &&& 63)) ||| ((xs (i + 3)).toInt64 &&& (lN 4294967295))), .long (((xs (i + 4)).toInt64 <<< ((nI 32).toInt64 &&& 63)) ||| ((xs (i + 5)).toInt64 &&& (lN 4294967295)))]) rfl (wl5 wM_L_122 wi_X9_target wS_X9_target wI_StateShares wc_X9_target) (by decide +kernel) (by decide) rfl rfl (Nat.le_of_ble_eq_true rfl) dL_law_1381 hS (by show cu + 0 ≤ 601024; omega) (by show su + 0 ≤ 7293000; omega) (Ct.imp P (fun r h1 n1 V => ?_))
  obtain ⟨v, rfl, ⟨fs2, hm⟩, V⟩ := V
  show BlkY g M_L_law (KL g b N xs) lw_Z 1384 [(0, .ref b), (1, .ref S), (2, .ref m), (3, .ref ob), (4, .int (nI i))] [.int v] h1 n1 cu su
  refine y_aload_n 2 dL_law_1384 rfl rfl ?_
  refine y_aload_n 0 dL_law_1385 rfl rfl ?_
  refine y_iload 4 dL_law_1386 rfl ?_
  refine y_iconst (v := (nI 1)) dL_law_1388 rfl ?_
  refine y_iaddN dL_law_1389 ?_
  refine y_sld (fun _ _ _ z => z.2.1) dL_law_1390 rfl (by omega) hN ?_
  refine y_aload_n 0 dL_law_1391 rfl rfl ?_
  refine y_iload 4 dL_law_1392 rfl ?_
  refine y_iconst (v := (nI 2)) dL_law_1394 rfl ?_
  refine y_iaddN dL_law_1395 ?_
  refine y_sld (fun _ _ _ z => z.2.1) dL_law_1396 rfl (by omega) hN ?_
  refine y_i2l dL_law_1397 ?_
  refine y_bipush (v := (nI 32)) dL_law_1398 rfl ?_
  refine y_lshl dL_law_1400 ?_
  refine y_aload_n 0 dL_law_1401 rfl rfl ?_
  refine y_iload 4 dL_law_1402 rfl ?_
  refine y_iconst (v := (nI 3)) dL_law_1404 rfl ?_
  refine y_iaddN dL_law_1405 ?_
  refine y_sld (fun _ _ _ z => z.2.1) dL_law_1406 rfl (by omega) hN ?_
  refine y_i2l dL_law_1407 ?_
  refine y_ldc2 (v := (lN 4294967295)) wL_L_74 dL_law_1408 ?_
  refine y_land dL_law_1411 ?_
  refine y_lor dL_law_1412 ?_
  refine y_aload_n 0 dL_law_1413 rfl rfl ?_
  refine y_iload 4 dL_law_1414 rfl ?_
  refine y_iconst (v := (nI 4)) dL_law_1416 rfl ?_
  refine y_iaddN dL_law_1417 ?_
  refine y_sld (fun _ _ _ z => z.2.1) dL_law_1418 rfl (by omega) hN ?_
  refine y_i2l dL_law_1419 ?_
  refine y_bipush (v := (nI 32)) dL_law_1420 rfl ?_
  refine y_lshl dL_law_1422 ?_
  refine y_aload_n 0 dL_law_1423 rfl rfl ?_
  refine y_iload 4 dL_law_1424 rfl ?_
  refine y_iconst (v := (nI 5)) dL_law_1426 rfl ?_
  refine y_iaddN dL_law_1427 ?_
  refine y_sld (fun _ _ _ z => z.2.1) dL_law_1428 rfl (by omega) hN ?_
  refine y_i2l dL_law_1429 ?_
  refine y_ldc2 (v := (lN 4294967295)) wL_L_74 dL_law_1430 ?_
  refine y_land dL_law_1433 ?_
  refine y_lor dL_law_1434 ?_
  refine y_callV (M2 := M_X10_target) (ci := 11) (n := 3) (As := [.int (xs (i + 1)), .long (((xs (i + 2)).toInt64 <<< ((nI 32).toInt64 &&& 63)) ||| ((xs (i + 3)).toInt64 &&& (lN 4294967295))), .long (((xs (i + 4)).toInt64 <<< ((nI 32).toInt64 &&& 63)) ||| ((xs (i + 5)).toInt64 &&& (lN 4294967295)))]) rfl (wl5 wM_L_126 wi_X10_target wS_X10_target wI_StateSharesModel wc_X10_target) (by decide +kernel) (by decide) rfl rfl (Nat.le_of_ble_eq_true rfl) dL_law_1435 hm (by show cu + 0 ≤ 601024; omega) (by show su + 0 ≤ 7293000; omega) (Ct.imp V (fun r h2 n2 V => ?_))
  obtain ⟨rfl, hn2, hV⟩ := V
  subst hn2
  show BlkY g M_L_law (KL g b N xs) lw_Z 1438 [(0, .ref b), (1, .ref S), (2, .ref m), (3, .ref ob), (4, .int (nI i))] [.int v, .int v] h2 n2 cu su
  exact y_icmp_eq (tgt := 1505) dL_law_1438 (by decide) (fun _ => k h2 hV) (fun c => absurd rfl c)
set_option maxRecDepth 20000 in
theorem lc_missing {g : xG} {b N S m ob n i nx cu su : Nat} {xs : Nat → Int32} {h : xHp} {fs : List Value} (hN : N < 2 ^ 31) (hi : i + 8 ≤ N) (hc : cu + 2 ≤ 601024) (hs : su + 12 ≤ 7293000) (hS : h S = some (xo 10 fs)) (P : PairI g M_X9_missing M_X10_missing [.int (xs (i + 1))] S m ob n h nx) (k : ∀ h2, Inv h2 S m ob n → BlkY g M_L_law (KL g b N xs) lw_Z 1505 [(0, .ref b), (1, .ref S), (2, .ref m), (3, .ref ob), (4, .int (nI i))] [] h2 nx cu su) : BlkY g M_L_law (KL g b N xs) lw_Z 1443 [(0, .ref b), (1, .ref S), (2, .ref m), (3, .ref ob), (4, .int (nI i))] [] h nx cu su := by
  refine y_aload_n 1 dL_law_1443 rfl rfl ?_
  refine y_aload_n 0 dL_law_1444 rfl rfl ?_
  refine y_iload 4 dL_law_1445 rfl ?_
  refine y_iconst (v := (nI 1)) dL_law_1447 rfl ?_
  refine y_iaddN dL_law_1448 ?_
  refine y_sld (fun _ _ _ z => z.2.1) dL_law_1449 rfl (by omega) hN ?_
  refine y_callV (M2 := M_X9_missing) (ci := 10) (n := 1) (As := [.int (xs (i + 1))]) rfl (wl5 wM_L_127 wi_X9_missing wS_X9_missing wI_StateShares wc_X9_missing) (by decide +kernel) (by decide) rfl rfl (Nat.le_of_ble_eq_true rfl) dL_law_1450 hS (by show cu + 0 ≤ 601024; omega) (by show su + 0 ≤ 7293000; omega) (Ct.imp P (fun r h1 n1 V => ?_))
  obtain ⟨v, rfl, ⟨fs2, hm⟩, V⟩ := V
  show BlkY g M_L_law (KL g b N xs) lw_Z 1453 [(0, .ref b), (1, .ref S), (2, .ref m), (3, .ref ob), (4, .int (nI i))] [.int v] h1 n1 cu su
  refine y_aload_n 2 dL_law_1453 rfl rfl ?_
  refine y_aload_n 0 dL_law_1454 rfl rfl ?_
  refine y_iload 4 dL_law_1455 rfl ?_
  refine y_iconst (v := (nI 1)) dL_law_1457 rfl ?_
  refine y_iaddN dL_law_1458 ?_
  refine y_sld (fun _ _ _ z => z.2.1) dL_law_1459 rfl (by omega) hN ?_
  refine y_callV (M2 := M_X10_missing) (ci := 11) (n := 1) (As := [.int (xs (i + 1))]) rfl (wl5 wM_L_131 wi_X10_missing wS_X10_missing wI_StateSharesModel wc_X10_missing) (by decide +kernel) (by decide) rfl rfl (Nat.le_of_ble_eq_true rfl) dL_law_1460 hm (by show cu + 0 ≤ 601024; omega) (by show su + 0 ≤ 7293000; omega) (Ct.imp V (fun r h2 n2 V => ?_))
  obtain ⟨rfl, hn2, hV⟩ := V
  subst hn2
  show BlkY g M_L_law (KL g b N xs) lw_Z 1463 [(0, .ref b), (1, .ref S), (2, .ref m), (3, .ref ob), (4, .int (nI i))] [.int v, .int v] h2 n2 cu su
  exact y_icmp_eq (tgt := 1505) dL_law_1463 (by decide) (fun _ => k h2 hV) (fun c => absurd rfl c)
set_option maxRecDepth 20000 in
theorem lc_kind {g : xG} {b N S m ob n i nx cu su : Nat} {xs : Nat → Int32} {h : xHp} {fs : List Value} (hN : N < 2 ^ 31) (hi : i + 8 ≤ N) (hc : cu + 2 ≤ 601024) (hs : su + 12 ≤ 7293000) (hS : h S = some (xo 10 fs)) (P : PairI g M_X9_kind M_X10_kind [.int (xs (i + 1)), .int (xs (i + 2))] S m ob n h nx) (k : ∀ h2, Inv h2 S m ob n → BlkY g M_L_law (KL g b N xs) lw_Z 1505 [(0, .ref b), (1, .ref S), (2, .ref m), (3, .ref ob), (4, .int (nI i))] [] h2 nx cu su) : BlkY g M_L_law (KL g b N xs) lw_Z 1468 [(0, .ref b), (1, .ref S), (2, .ref m), (3, .ref ob), (4, .int (nI i))] [] h nx cu su := by
  refine y_aload_n 1 dL_law_1468 rfl rfl ?_
  refine y_aload_n 0 dL_law_1469 rfl rfl ?_
  refine y_iload 4 dL_law_1470 rfl ?_
  refine y_iconst (v := (nI 1)) dL_law_1472 rfl ?_
  refine y_iaddN dL_law_1473 ?_
  refine y_sld (fun _ _ _ z => z.2.1) dL_law_1474 rfl (by omega) hN ?_
  refine y_aload_n 0 dL_law_1475 rfl rfl ?_
  refine y_iload 4 dL_law_1476 rfl ?_
  refine y_iconst (v := (nI 2)) dL_law_1478 rfl ?_
  refine y_iaddN dL_law_1479 ?_
  refine y_sld (fun _ _ _ z => z.2.1) dL_law_1480 rfl (by omega) hN ?_
  refine y_callV (M2 := M_X9_kind) (ci := 10) (n := 2) (As := [.int (xs (i + 1)), .int (xs (i + 2))]) rfl (wl5 wM_L_132 wi_X9_kind wS_X9_kind wI_StateShares wc_X9_kind) (by decide +kernel) (by decide) rfl rfl (Nat.le_of_ble_eq_true rfl) dL_law_1481 hS (by show cu + 0 ≤ 601024; omega) (by show su + 0 ≤ 7293000; omega) (Ct.imp P (fun r h1 n1 V => ?_))
  obtain ⟨v, rfl, ⟨fs2, hm⟩, V⟩ := V
  show BlkY g M_L_law (KL g b N xs) lw_Z 1484 [(0, .ref b), (1, .ref S), (2, .ref m), (3, .ref ob), (4, .int (nI i))] [.int v] h1 n1 cu su
  refine y_aload_n 2 dL_law_1484 rfl rfl ?_
  refine y_aload_n 0 dL_law_1485 rfl rfl ?_
  refine y_iload 4 dL_law_1486 rfl ?_
  refine y_iconst (v := (nI 1)) dL_law_1488 rfl ?_
  refine y_iaddN dL_law_1489 ?_
  refine y_sld (fun _ _ _ z => z.2.1) dL_law_1490 rfl (by omega) hN ?_
  refine y_aload_n 0 dL_law_1491 rfl rfl ?_
  refine y_iload 4 dL_law_1492 rfl ?_
  refine y_iconst (v := (nI 2)) dL_law_1494 rfl ?_
  refine y_iaddN dL_law_1495 ?_
  refine y_sld (fun _ _ _ z => z.2.1) dL_law_1496 rfl (by omega) hN ?_
  refine y_callV (M2 := M_X10_kind) (ci := 11) (n := 2) (As := [.int (xs (i + 1)), .int (xs (i + 2))]) rfl (wl5 wM_L_136 wi_X10_kind wS_X10_kind wI_StateSharesModel wc_X10_kind) (by decide +kernel) (by decide) rfl rfl (Nat.le_of_ble_eq_true rfl) dL_law_1497 hm (by show cu + 0 ≤ 601024; omega) (by show su + 0 ≤ 7293000; omega) (Ct.imp V (fun r h2 n2 V => ?_))
  obtain ⟨rfl, hn2, hV⟩ := V
  subst hn2
  show BlkY g M_L_law (KL g b N xs) lw_Z 1500 [(0, .ref b), (1, .ref S), (2, .ref m), (3, .ref ob), (4, .int (nI i))] [.int v, .int v] h2 n2 cu su
  exact y_icmp_eq (tgt := 1505) dL_law_1500 (by decide) (fun _ => k h2 hV) (fun c => absurd rfl c)
