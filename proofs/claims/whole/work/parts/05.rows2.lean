section R3
variable {g : xG} {M : xM} {post : xPost} {pc : Nat} {L : List (Nat × Value)} {st : List Value} {h : xHp} {nx cu su : Nat}
theorem Cx.B {p : Program} {s : State} {m : MethodId} {args : Array Value} {meth : Method} {c : Code} (C : Cx g M p s m args meth c) : gB g ≤ s.heap.size := C.2.2.2.2.2.2.2.2.2
theorem Cx.F {p : Program} {s : State} {m : MethodId} {args : Array Value} {meth : Method} {c : Code} (C : Cx g M p s m args meth c) : xF g s s.heap := C.2.2.2.2.2.2.2.2.1
theorem Cx.K {p : Program} {s : State} {m : MethodId} {args : Array Value} {meth : Method} {c : Code} (C : Cx g M p s m args meth c) : va_K (gD g) vwCl (xtys (gK g)) s := C.2.2.2.2.2.2.2.2.1.1.1
theorem Cx.W {p : Program} {s : State} {m : MethodId} {args : Array Value} {meth : Method} {c : Code} (C : Cx g M p s m args meth c) : ∀ w ∈ lw_gd, w.before args s = true := C.2.2.2.2.2.2.2.1
theorem Cx.own {p : Program} {s : State} {m : MethodId} {args : Array Value} {meth : Method} {c : Code} (C : Cx g M p s m args meth c) : s.vm.findClass (xm_y M).cls = some m.cls := C.2.2.2.2.2.2.1
theorem xS_push {s : State} {H H1 : Heap} {locs : List Loc} (hS : va_S (xA g) s.heap H locs) (z : H1.size = H.size + 1) (o : ∀ q : Nat, q < H.size → H1[q]? = H[q]?) : va_S (xA g) s.heap H1 locs :=
  ⟨Nat.le_trans hS.1 (by omega), fun x h1 h2 => (o x (Nat.lt_of_lt_of_le h1 hS.1)).trans (hS.2.1 x h1 h2), hS.2.2⟩
/-! objects and arrays made -/
theorem r_new {ci idx N : Nat} {fs : List Value} {C0 : String} {T : u_T} {ty : Nat → FieldType} (hc : vwCl[ci]? = some (C0, T, N)) (hin : ∀ w ∈ u_ws C0 T N, w ∈ lw_gd) (hty : ∀ k, k < N → parseFieldDescriptor (T k).2.2.1 = some (ty k)) (h1 : Cond.classLink (xm_y M).cls idx C0 ∈ lw_gd) (h2 : Cond.instantiable C0 N ∈ lw_gd) (h3 : Cond.initialized C0 ∈ lw_gd) (hd : decode (xm_c M) pc = .ok (.new idx, 3)) (hfs : ∀ j, j < N → defaultValue (ty j) = vp_V fs j) (hcu : cu + 1 ≤ (xm_r M).cells) (hsu : su + N ≤ (xm_r M).slots) (k : Blk g M post (pc + 3) L (.ref nx :: st) (xup h nx (xo ci fs)) (nx + 1) (cu + 1) (su + N)) : Blk g M post pc L st h nx cu su := by
  intro p e s m args below meth c C H locs ls hH hS hL
  have hKn := C.K.1 ci _ hc
  refine W.newcK C.1 C.2.1 C.own (C.W _ h1) (C.W _ h2) (C.W _ h3) rfl hd hcu hsu hKn.2.1 hH.1 fun H1 kC hkC e1 z1 o1 => ?_
  refine k p e s m args below meth c C H1 locs ls (hH.push ?_ z1 o1 ⟨_, hc, (u_born ty C.W hin hKn hkC e1 hty).to hfs⟩) (xS_push hS (by rw [hH.1]; exact z1) (by rw [hH.1]; exact o1)) hL
  rw [← hH.1]
  exact Nat.le_trans C.B hS.1
theorem r_newa {kd N : Nat} {n : Int32} {atype : ArrayType} {ty : FieldType} {a0 : vp_A} (hkd : ∀ kA : Nat → ClassId, (xtys kA)[kd]? = some (kA kd, ty)) (hty : newarray.typeOf atype = ty) (hra : ∀ (U : State) (c : ClassId), va_RA U c ty → U.vm.findClass ("[" ++ ty.toString) = some c) (hw : Cond.arrayClass ty ∈ lw_gd) (hd : decode (xm_c M) pc = .ok (.newarray atype, 2)) (ha : ∀ cA : ClassId, vp_cell cA a0 = arrV cA N (fun _ => defaultValue ty)) (hn : n = nI N) (hN : N * componentBytes ty ≤ 536870912 ∧ N < 2 ^ 31) (hcu : cu + 1 ≤ (xm_r M).cells) (hsu : su + N ≤ (xm_r M).slots) (k : Blk g M post (pc + 2) L (.ref nx :: st) (xup h nx (.inl (kd, a0))) (nx + 1) (cu + 1) (su + N)) : Blk g M post pc L (.int n :: st) h nx cu su := by
  intro p e s m args below meth c C H locs ls hH hS hL
  subst hty
  subst hn
  refine va_newaK C.1 C.2.1 (C.W _ hw) rfl hd rfl (nI_pos hN.2) (nI_clamp hN.2) hN.1 hcu hsu hH.1 fun H1 cA e1 z1 o1 hAr hNm => ?_
  have hcA : cA = gK g kd := Option.some.inj (hNm.symm.trans (hra s _ (C.K.2 kd _ (hkd _)).2))
  refine k p e s m args below meth c C H1 locs ls (hH.push ?_ z1 o1 ?_) (xS_push hS (by rw [hH.1]; exact z1) (by rw [hH.1]; exact o1)) hL
  · rw [← hH.1]
    exact Nat.le_trans C.B hS.1
  · show H1[nx]? = some (vp_cell _ _)
    rw [← hcA]
    rw [ha]
    exact e1
theorem r_newi {N : Nat} {n : Int32} (hw : Cond.arrayClass .int ∈ lw_gd) (hd : decode (xm_c M) pc = .ok (.newarray .int, 2)) (hn : n = nI N) (hN : N ≤ 1000000) (hcu : cu + 1 ≤ (xm_r M).cells) (hsu : su + N ≤ (xm_r M).slots) (k : Blk g M post (pc + 2) L (.ref nx :: st) (xup h nx (xia N (fun _ => nI 0))) (nx + 1) (cu + 1) (su + N)) : Blk g M post pc L (.int n :: st) h nx cu su :=
  r_newa (kd := 0) (ty := .int) (atype := .int) (a0 := (N, .inl (fun _ => nI 0))) (fun _ => rfl) rfl (fun _ _ q => q) hw hd (fun _ => rfl) hn ⟨by show N * 4 ≤ _; omega, by omega⟩ hcu hsu k
theorem r_newc {N : Nat} {n : Int32} (hw : Cond.arrayClass .char ∈ lw_gd) (hd : decode (xm_c M) pc = .ok (.newarray .char, 2)) (hn : n = nI N) (hN : N ≤ 1000000) (hcu : cu + 1 ≤ (xm_r M).cells) (hsu : su + N ≤ (xm_r M).slots) (k : Blk g M post (pc + 2) L (.ref nx :: st) (xup h nx (xca N (fun _ => nI 0))) (nx + 1) (cu + 1) (su + N)) : Blk g M post pc L (.int n :: st) h nx cu su :=
  r_newa (kd := 1) (ty := .char) (atype := .char) (a0 := (N, .inl (fun _ => nI 0))) (fun _ => rfl) rfl (fun _ _ q => q) hw hd (fun _ => rfl) hn ⟨by show N * 2 ≤ _; omega, by omega⟩ hcu hsu k
theorem r_newz {N : Nat} {n : Int32} (hw : Cond.arrayClass .boolean ∈ lw_gd) (hd : decode (xm_c M) pc = .ok (.newarray .boolean, 2)) (hn : n = nI N) (hN : N ≤ 1000000) (hcu : cu + 1 ≤ (xm_r M).cells) (hsu : su + N ≤ (xm_r M).slots) (k : Blk g M post (pc + 2) L (.ref nx :: st) (xup h nx (xza N (fun _ => nI 0))) (nx + 1) (cu + 1) (su + N)) : Blk g M post pc L (.int n :: st) h nx cu su :=
  r_newa (kd := 3) (ty := .boolean) (atype := .boolean) (a0 := (N, .inl (fun _ => nI 0))) (fun _ => rfl) rfl (fun _ _ q => q) hw hd (fun _ => rfl) hn ⟨by show N * 1 ≤ _; omega, by omega⟩ hcu hsu k
theorem r_newl {N : Nat} {n : Int32} (hw : Cond.arrayClass .long ∈ lw_gd) (hd : decode (xm_c M) pc = .ok (.newarray .long, 2)) (hn : n = nI N) (hN : N ≤ 1000000) (hcu : cu + 1 ≤ (xm_r M).cells) (hsu : su + N ≤ (xm_r M).slots) (k : Blk g M post (pc + 2) L (.ref nx :: st) (xup h nx (xla N (fun _ => lN 0))) (nx + 1) (cu + 1) (su + N)) : Blk g M post pc L (.int n :: st) h nx cu su :=
  r_newa (kd := 2) (ty := .long) (atype := .long) (a0 := (N, .inr (.inl (fun _ => lN 0)))) (fun _ => rfl) rfl (fun _ _ q => q) hw hd (fun _ => rfl) hn ⟨by show N * 8 ≤ _; omega, by omega⟩ hcu hsu k
theorem r_anew {kd N idx : Nat} {n : Int32} {C0 : String} (hkd : ∀ kA : Nat → ClassId, (xtys kA)[kd]? = some (kA kd, .object C0)) (hao : ∀ U : State, xT g U → va_AO C0 U) (hw : Cond.classLink (xm_y M).cls idx C0 ∈ lw_gd) (hd : decode (xm_c M) pc = .ok (.anewarray idx, 3)) (hn : n = nI N) (hN : N ≤ 1000000) (hcu : cu + 1 ≤ (xm_r M).cells) (hsu : su + N ≤ (xm_r M).slots) (k : Blk g M post (pc + 3) L (.ref nx :: st) (xup h nx (xra kd N (fun _ => none))) (nx + 1) (cu + 1) (su + N)) : Blk g M post pc L (.int n :: st) h nx cu su := by
  intro p e s m args below meth c C H locs ls hH hS hL
  subst hn
  have hcl : (nI N).toNatClampNeg = N := nI_clamp (by omega)
  refine W.anew C.1 C.2.1 C.own (C.W _ hw) (va_AO.use (hao s C.F.1)) rfl hd rfl (nI_pos (by omega)) (by rw [hcl]; omega) hcu (by rw [hcl]; exact hsu) fun cA kA comp f1 f2 f3 f4 => ?_
  rw [hcl, hH.1]
  have hcA : cA = gK g kd := by
    obtain ⟨_, _, _, _, _, q⟩ := (C.K.2 kd _ (hkd _)).2
    exact Option.some.inj (f1.symm.trans q)
  have z1 : (H.push ({ cls := cA, slots := Array.replicate N .null, vm := .none } : Cell)).size = nx + 1 := by rw [Array.size_push, hH.1]
  have o1 : ∀ q : Nat, q < nx → (H.push ({ cls := cA, slots := Array.replicate N .null, vm := .none } : Cell))[q]? = H[q]? := fun q hq => by rw [Array.getElem?_push, if_neg (by rw [hH.1]; exact Nat.ne_of_lt hq)]
  refine k p e s m args below meth c C _ locs ls (hH.push ?_ z1 o1 ?_) (xS_push hS (by rw [hH.1]; exact z1) (by rw [hH.1]; exact o1)) hL
  · rw [← hH.1]
    exact Nat.le_trans C.B hS.1
  · show (H.push _)[nx]? = some (vp_cell (gK g kd) (N, .inr (.inr (.inr (.inr (fun _ => none))))))
    rw [← hH.1, Array.getElem?_push_size, ← hcA, vp_cell_q, arrV_new]
    rfl
theorem r_aast {kd N j a v ci : Nat} {i : Int32} {f : Nat → Option Nat} {vs : List Value} {r : vw_C} (hkd : ∀ kA : Nat → ClassId, (xtys kA)[kd]? = some (kA kd, .object r.1)) (hc : vwCl[ci]? = some r) (hd : decode (xm_c M) pc = .ok (.aastore, 1)) (ha : h a = some (xra kd N f)) (hv : h v = some (xo ci vs)) (hi : i = nI j) (hj : j < N) (hN : N < 2 ^ 31) (k : Blk g M post (pc + 1) L st (xup h a (xra kd N (va_up f j (some v)))) nx cu su) : Blk g M post pc L (.ref v :: .int i :: .ref a :: st) h nx cu su := by
  intro p e s m args below meth c C H locs ls hH hS hL
  obtain ⟨x1, x2⟩ := xin hi hj hN
  have h0 : ¬ i < 0 := fun q => x1 (Or.inl q)
  obtain ⟨r', hr', cellV, g1, g2, g3, -⟩ := (hH.2 v _ hv).2
  have hcls := (C.K.1 ci r hc).2
  obtain ⟨kA, comp, k1, k2, k3, -⟩ := (C.K.2 kd _ (hkd _)).2
  have hcomp : comp = (gD g).1 ci := Option.some.inj (k3.symm.trans hcls.1)
  subst hcomp
  obtain ⟨kC, hkC, -⟩ := hcls.2
  refine W.aast C.1 C.2.1 (hH.2 a _ ha).2 (fun q h => by cases h) (fun h => by cases h) k1 k2 rfl hkC ⟨h0, by show _ < (arrV _ _ _).slots.size; rw [arrV_size, x2]; exact hj⟩ g1 (fun q h => by rw [g3] at h; cases h) (by rw [g2]; exact hkC) (by rw [g2]; exact va_assign hcls) rfl rfl hd fun H1 e1 z oq => ?_
  refine k p e s m args below meth c C H1 _ ls (hH.set (hH.2 a _ ha).1 z oq ?_) (hS.put z oq (hH.2 a _ ha).1) hL
  show H1[a]? = some (vp_cell _ _)
  rw [e1, x2]
  show some ((vp_cell (gK g kd) (N, .inr (.inr (.inr (.inr f))))).setSlot j (.ref v)) = some (vp_cell (gK g kd) (N, .inr (.inr (.inr (.inr (va_up f j (some v)))))))
  rw [vp_cell_q, vp_cell_q, arrV_store]
  congr 2
  funext q
  by_cases hq : q = j
  · subst hq
    simp [updV, va_up, va_rf]
  · simp [updV, va_up, hq]
theorem r_oinit {a idx : Nat} (h1 : Cond.methodLink (xm_y M).cls idx objectInit ∈ lw_gd) (h2 : Cond.instanceMethod objectInit ∈ lw_gd) (h3 : Cond.code objectInit ⟨#[0xb1]⟩ 1 none ∈ lw_gd) (hd : decode (xm_c M) pc = .ok (.invokespecial idx, 3)) (hf : 1 ≤ (xm_r M).frames) (hlo : (st.map fun v => v.category).sum + 12 ≤ (xm_r M).locals) (k : Blk g M post (pc + 3) L st h nx cu su) : Blk g M post pc L (.ref a :: st) h nx cu su :=
  fun p e s m args below meth c C H locs ls hH hS hL => W.objInit C.1 C.2.1 C.own (C.W _ h1) (C.W _ h2) (C.W _ h3) rfl (by rw [C.2.2.1]; exact hL.1) rfl hd hf (by show 2 * 0 + _ + 12 ≤ _; omega) (k p e s m args below meth c C H locs ls hH hS hL)
/-! the row of primes -/
theorem r_gsP5 (ho : (xm_y M).cls = RX5) (hd : decode (xm_c M) pc = .ok (.getstatic 22, 3)) (k : Blk g M post (pc + 3) L (.ref (gP g) :: st) h nx cu su) : Blk g M post pc L st h nx cu su :=
  fun p e s m args below meth c C H locs ls hH hS hL => va_getsN C.1 C.2.1 C.F.2.1.1 hS (ho ▸ C.own) (va_Nw.use rfl C.F.1.2.2.1.1) (fun _ q => q) hd (k p e s m args below meth c C H locs ls hH hS hL)
theorem r_gsP2 (ho : (xm_y M).cls = RX2) (hd : decode (xm_c M) pc = .ok (.getstatic 39, 3)) (k : Blk g M post (pc + 3) L (.ref (gP g) :: st) h nx cu su) : Blk g M post pc L st h nx cu su :=
  fun p e s m args below meth c C H locs ls hH hS hL => va_getsN C.1 C.2.1 C.F.2.1.1 hS (ho ▸ C.own) (va_Nw.use rfl C.F.1.2.2.1.2.1) (fun _ q => q) hd (k p e s m args below meth c C H locs ls hH hS hL)
theorem r_ialdP {j : Nat} {i : Int32} (hd : decode (xm_c M) pc = .ok (.iaload, 1)) (hi : i = nI j) (hj : j < 168) (k : Blk g M post (pc + 1) L (.int (nI (xpr j)) :: st) h nx cu su) : Blk g M post pc L (.int i :: .ref (gP g) :: st) h nx cu su :=
  fun p e s m args below meth c C H locs ls hH hS hL => va_ti C.1 C.2.1 C.F.2.1.2 hS (xin hi hj (by decide)).1 (by rw [(xin hi hj (by decide)).2]) hd (k p e s m args below meth c C H locs ls hH hS hL)
theorem r_alenP (hd : decode (xm_c M) pc = .ok (.arraylength, 1)) (k : Blk g M post (pc + 1) L (.int (nI 168) :: st) h nx cu su) : Blk g M post pc L (.ref (gP g) :: st) h nx cu su :=
  fun p e s m args below meth c C H locs ls hH hS hL => va_tlen C.1 C.2.1 C.F.2.1.2 hS rfl hd (k p e s m args below meth c C H locs ls hH hS hL)
/-! Math -/
theorem r_mmax {x y : Int32} {idx : Nat} (h1 : Cond.methodLink (xm_y M).cls idx Lib.Math.max.name ∈ lw_gd) (h2 : Cond.static Lib.Math.max.name ∈ lw_gd) (h3 : Cond.initialized "java/lang/Math" ∈ lw_gd) (h4 : Cond.code Lib.Math.max.name Lib.Math.max.code 2 (some .int) ∈ lw_gd) (hd : decode (xm_c M) pc = .ok (.invokestatic idx, 3)) (hf : 1 ≤ (xm_r M).frames) (hlo : (st.map fun v => v.category).sum + 13 ≤ (xm_r M).locals) (hc : cu ≤ (xm_r M).cells) (hs : su ≤ (xm_r M).slots) (k : Blk g M post (pc + 3) L (.int (if x < y then y else x) :: st) h nx cu su) : Blk g M post pc L (.int y :: .int x :: st) h nx cu su :=
  fun p e s m args below meth c C H locs ls hH hS hL => va_mmax C.1 C.2.1 (by rw [C.2.2.1, hL.1]) C.own (C.W _ h1) (C.W _ h2) (C.W _ h3) (C.W _ h4) hf hlo hc hs hd (k p e s m args below meth c C H locs ls hH hS hL)
theorem r_mmin {x y : Int32} {idx : Nat} (h1 : Cond.methodLink (xm_y M).cls idx Lib.Math.min.name ∈ lw_gd) (h2 : Cond.static Lib.Math.min.name ∈ lw_gd) (h3 : Cond.initialized "java/lang/Math" ∈ lw_gd) (h4 : Cond.code Lib.Math.min.name Lib.Math.min.code 2 (some .int) ∈ lw_gd) (hd : decode (xm_c M) pc = .ok (.invokestatic idx, 3)) (hf : 1 ≤ (xm_r M).frames) (hlo : (st.map fun v => v.category).sum + 13 ≤ (xm_r M).locals) (hc : cu ≤ (xm_r M).cells) (hs : su ≤ (xm_r M).slots) (k : Blk g M post (pc + 3) L (.int (if y < x then y else x) :: st) h nx cu su) : Blk g M post pc L (.int y :: .int x :: st) h nx cu su :=
  fun p e s m args below meth c C H locs ls hH hS hL => va_mmin C.1 C.2.1 (by rw [C.2.2.1, hL.1]) C.own (C.W _ h1) (C.W _ h2) (C.W _ h3) (C.W _ h4) hf hlo hc hs hd (k p e s m args below meth c C H locs ls hH hS hL)
theorem r_mabs {x : Int32} {idx : Nat} (h1 : Cond.methodLink (xm_y M).cls idx Lib.Math.abs.name ∈ lw_gd) (h2 : Cond.static Lib.Math.abs.name ∈ lw_gd) (h3 : Cond.initialized "java/lang/Math" ∈ lw_gd) (h4 : Cond.code Lib.Math.abs.name Lib.Math.abs.code 1 (some .int) ∈ lw_gd) (hd : decode (xm_c M) pc = .ok (.invokestatic idx, 3)) (hf : 1 ≤ (xm_r M).frames) (hlo : (st.map fun v => v.category).sum + 13 ≤ (xm_r M).locals) (hc : cu ≤ (xm_r M).cells) (hs : su ≤ (xm_r M).slots) (k : Blk g M post (pc + 3) L (.int (if 0 ≤ x then x else 0 - x) :: st) h nx cu su) : Blk g M post pc L (.int x :: st) h nx cu su :=
  fun p e s m args below meth c C H locs ls hH hS hL => va_mabs C.1 C.2.1 (by rw [C.2.2.1, hL.1]) C.own (C.W _ h1) (C.W _ h2) (C.W _ h3) (C.W _ h4) hf hlo hc hs hd (k p e s m args below meth c C H locs ls hH hS hL)
theorem r_mmaxl {x y : Int64} {idx : Nat} (h1 : Cond.methodLink (xm_y M).cls idx Lib.MathLoose.max_long.x ∈ lw_gd) (h2 : Cond.static Lib.MathLoose.max_long.x ∈ lw_gd) (h3 : Cond.initialized "java/lang/Math" ∈ lw_gd) (h4 : Cond.code Lib.MathLoose.max_long.x Lib.MathLoose.max_long.code 4 (some .long) ∈ lw_gd) (hd : decode (xm_c M) pc = .ok (.invokestatic idx, 3)) (hf : 1 ≤ (xm_r M).frames) (hlo : (st.map fun v => v.category).sum + 15 ≤ (xm_r M).locals) (hc : cu ≤ (xm_r M).cells) (hs : su ≤ (xm_r M).slots) (k : Blk g M post (pc + 3) L (.long (if y < x then x else y) :: st) h nx cu su) : Blk g M post pc L (.long y :: .long x :: st) h nx cu su :=
  fun p e s m args below meth c C H locs ls hH hS hL => va_mmax_long C.1 C.2.1 (by rw [C.2.2.1, hL.1]) C.own (C.W _ h1) (C.W _ h2) (C.W _ h3) (C.W _ h4) hf hlo hc hs hd (k p e s m args below meth c C H locs ls hH hS hL)
theorem r_mabsl {x : Int64} {idx : Nat} (h1 : Cond.methodLink (xm_y M).cls idx Lib.MathLoose.abs_long.x ∈ lw_gd) (h2 : Cond.static Lib.MathLoose.abs_long.x ∈ lw_gd) (h3 : Cond.initialized "java/lang/Math" ∈ lw_gd) (h4 : Cond.code Lib.MathLoose.abs_long.x Lib.MathLoose.abs_long.code 2 (some .long) ∈ lw_gd) (hd : decode (xm_c M) pc = .ok (.invokestatic idx, 3)) (hf : 1 ≤ (xm_r M).frames) (hlo : (st.map fun v => v.category).sum + 13 ≤ (xm_r M).locals) (hc : cu ≤ (xm_r M).cells) (hs : su ≤ (xm_r M).slots) (k : Blk g M post (pc + 3) L (.long (if 0 < x then x else -x) :: st) h nx cu su) : Blk g M post pc L (.long x :: st) h nx cu su :=
  fun p e s m args below meth c C H locs ls hH hS hL => va_mabs_long C.1 C.2.1 (by rw [C.2.2.1, hL.1]) C.own (C.W _ h1) (C.W _ h2) (C.W _ h3) (C.W _ h4) hf hlo hc hs hd (k p e s m args below meth c C H locs ls hH hS hL)
/-! calls -/
theorem xW_blind {h : xHp} {nx : Nat} {av : List Value} : FrameBlind (va_Pc av (xW g h nx)) := by
  intro a U gf mk q
  obtain ⟨q0, q1, q2, q3⟩ := q
  exact ⟨q0, q1, ⟨xT.same rfl q2.1, xU.moved (Vm.Alike.refl U.vm) q2.2⟩, q3⟩
theorem xW_pre {p : Program} {s : State} {m : MethodId} {args : Array Value} {meth : Method} {c : Code} {H : Heap} {locs : List Loc} (C : Cx g M p s m args meth c) (hH : xH g h nx H) (hS : va_S (xA g) s.heap H locs) {av : List Value} : ∀ U : State, U.heap = H → s.WarmedH U.vm → va_Pc av (xW g h nx) av.toArray U := by
  intro U hU hW
  refine ⟨rfl, by rw [hU]; exact hH, ⟨xT.warm hW C.F.1, ?_⟩, by rw [hU]; exact Nat.le_trans C.B hS.1⟩
  rw [hU]
  exact (xU.moved hW.alike C.F.2).kept hS.2.1
theorem xcall {p : Program} {e : Env} {s : State} {m : MethodId} {args : Array Value} {below : List Frame} {meth : Method} {c : Code} {H : Heap} {locs : List Loc} {ls : Array Slot} {st0 : List Value} {Q : State → Prop} {mc ms : Nat} {av : Array Value} {P : xPost} {L' : List (Nat × Value)}
    (hr : va_Run p (gL g) e (xm_r M) s m args below meth c H locs cu su mc ms (F0 m pc ls st0) st (xQ g P av) (xA g)) (hS : va_S (xA g) s.heap H locs)
    (kk : ∀ (r : Option Value) (h' : xHp) (nx' : Nat) (H1 : Heap) (locs1 : List Loc), P r h' nx' → xH g h' nx' H1 → va_S (xA g) s.heap H1 locs1 → W p (gL g) e (xm_r M) s m args below meth c H1 locs1 (cu + mc) (su + ms) Q (F0 m (pc + 3) ls (r.toList ++ st))) : W p (gL g) e (xm_r M) s m args below meth c H locs cu su Q (F0 m pc ls st0) := by
  intro T hT X
  obtain ⟨v, st₀, t, T', Lc, h0, X', hLc, e1, e2, ⟨⟨r, h', nx', hv, hp, hh⟩, hz, hk⟩, stp⟩ := hr T hT X
  cases hv
  rw [h0] at hz hk
  obtain ⟨t2, a1, b1⟩ := kk v h' nx' T'.heap (locs ++ Lc) hp (by rw [e1]; exact hh)
    ⟨Nat.le_trans hS.1 (by rw [e1]; exact hz), fun q h1 h2 => by rw [e1, hk q (Nat.lt_of_lt_of_le h1 hS.1) h2]; exact hS.2.1 q h1 h2, fun q hq => by
      rcases List.mem_append.mp hq with h | h
      · exact hS.2.2 q h
      · exact hLc q h⟩ T' rfl X'
  exact ⟨t2, stp t2 a1, b1⟩
abbrev xcode (M : xM) : Cond := .code (xm_y M) (xm_c M) (xm_n M) (xm_t M)
abbrev xroom (M M2 : xM) : Prop := (xm_r M2).frames + 1 ≤ (xm_r M).frames ∧ 8 + (xm_n M2 + 11) + (xm_r M2).locals ≤ (xm_r M).locals
abbrev xhand (M2 : xM) (n : Nat) : Prop := (xm_y M2).cls ≠ "java/lang/invoke/MethodHandle" ∧ (xm_y M2).cls ≠ "java/lang/invoke/VarHandle" ∧ (parseMethodDescriptor (xm_y M2).desc).map (fun d => d.parameters.length) = some n
theorem r_callV {M2 : xM} {a ci idx n : Nat} {As st0 : List Value} {fs : List Value} {T : u_T} {N : Nat} (hc : vwCl[ci]? = some ((xm_y M2).cls, T, N)) (hw : ∀ w ∈ [Cond.methodLink (xm_y M).cls idx (xm_y M2), .instanceMethod (xm_y M2), .selects (xm_y M2).cls (xm_y M2) (xm_y M2), .initialized (xm_y M2).cls, xcode M2], w ∈ lw_gd) (hh : xhand M2 n) (hR : xroom M M2) (hn : As.length = n) (hst : st0 = As.reverse ++ .ref a :: st) (h8 : (st.map fun v => v.category).sum ≤ 8) (hd : decode (xm_c M) pc = .ok (.invokevirtual idx, 3)) (ha : h a = some (xo ci fs)) (hcu : cu + (xm_r M2).cells ≤ (xm_r M).cells) (hsu : su + (xm_r M2).slots ≤ (xm_r M).slots)
    (k : Ct g M2 (.ref a :: As) h nx (fun r h' nx' => Blk g M post (pc + 3) L (r.toList ++ st) h' nx' (cu + (xm_r M2).cells) (su + (xm_r M2).slots))) : Blk g M post pc L st0 h nx cu su := by
  intro p e s m args below meth c C H locs ls hH hS hL
  subst hst
  have hG : GoodIn lw_gd (wsV (xm_y M).cls idx (xm_y M2).cls (xm_y M2) (xcode M2 :: lw_gd)) := lw_gd_good fun w hq => by
    unfold wsV at hq
    rcases List.mem_append.mp hq with q | q
    · exact hw w (by simp at q ⊢; rcases q with q | q | q | q <;> simp [q])
    · rcases List.mem_cons.mp q with q | q
      · subst q; exact hw _ (by simp)
      · exact q
  refine xcall (L' := L) (va_runV (As := As) (rest := st) ⟨C.1, C.2.1, C.2.2.1, C.own, C.W⟩ k (cwV n C.W hG rfl rfl rfl ⟨rfl, hh⟩ hR) ⟨xW_blind, va_recv C.K (xat_P hH ha) hc (q0 := 0) rfl, xW_pre C hH hS⟩ rfl hn hL.1 rfl (lv_room h8) hd ⟨hcu, hsu⟩) hS ?_
  intro r h' nx' H1 locs1 hp hh1 hS1
  exact hp p e s m args below meth c C H1 locs1 ls hh1 hS1 hL
theorem r_callI {M2 : xM} {a idx n : Nat} {As st0 : List Value} (hw : ∀ w ∈ [Cond.methodLink (xm_y M).cls idx (xm_y M2), .instanceMethod (xm_y M2), .initialized (xm_y M2).cls, xcode M2], w ∈ lw_gd) (hin : (xm_y M2).name = "<init>") (hret : xm_t M2 = none) (hh : xhand M2 n) (hR : xroom M M2) (hn : As.length = n) (hst : st0 = As.reverse ++ .ref a :: st) (h8 : (st.map fun v => v.category).sum ≤ 8) (hd : decode (xm_c M) pc = .ok (.invokespecial idx, 3)) (hcu : cu + (xm_r M2).cells ≤ (xm_r M).cells) (hsu : su + (xm_r M2).slots ≤ (xm_r M).slots)
    (k : Ct g M2 (.ref a :: As) h nx (fun r h' nx' => Blk g M post (pc + 3) L (r.toList ++ st) h' nx' (cu + (xm_r M2).cells) (su + (xm_r M2).slots))) : Blk g M post pc L st0 h nx cu su := by
  intro p e s m args below meth c C H locs ls hH hS hL
  subst hst
  obtain ⟨y2, c2, n2, t2, r2⟩ := M2
  have hret : t2 = none := hret
  subst hret
  have hG : GoodIn lw_gd (.code y2 c2 n2 none :: lw_gd) := lw_gd_good fun w hq => by
    rcases List.mem_cons.mp hq with q | q
    · subst q; exact hw _ (by simp)
    · exact q
  refine xcall (L' := L) (va_runI (As := As) (rest := st) ⟨C.1, C.2.1, C.2.2.1, C.own, C.W⟩ k (cwI n C.W hG rfl rfl rfl (C.W _ (hw _ (by simp))) (C.W _ (hw _ (by simp))) (C.W _ (hw _ (by simp))) hin hh hR) ⟨xW_blind, xW_pre C hH hS⟩ rfl hn hL.1 rfl (lv_room h8) hd ⟨hcu, hsu⟩) hS ?_
  intro r h' nx' H1 locs1 hp hh1 hS1
  exact hp p e s m args below meth c C H1 locs1 ls hh1 hS1 hL
theorem r_callS {M2 : xM} {idx n : Nat} {As st0 : List Value} (hw : ∀ w ∈ [Cond.methodLink (xm_y M).cls idx (xm_y M2), .static (xm_y M2), .initialized (xm_y M2).cls, xcode M2], w ∈ lw_gd) (hh : xhand M2 n) (hR : xroom M M2) (hn : As.length = n) (hst : st0 = As.reverse ++ st) (h8 : (st.map fun v => v.category).sum ≤ 8) (hd : decode (xm_c M) pc = .ok (.invokestatic idx, 3)) (hcu : cu + (xm_r M2).cells ≤ (xm_r M).cells) (hsu : su + (xm_r M2).slots ≤ (xm_r M).slots)
    (k : Ct g M2 As h nx (fun r h' nx' => Blk g M post (pc + 3) L (r.toList ++ st) h' nx' (cu + (xm_r M2).cells) (su + (xm_r M2).slots))) : Blk g M post pc L st0 h nx cu su := by
  intro p e s m args below meth c C H locs ls hH hS hL
  subst hst
  have hG : GoodIn lw_gd (va_wsS (xm_y M).cls idx (xm_y M2) (xcode M2 :: lw_gd)) := lw_gd_good fun w hq => by
    unfold va_wsS at hq
    rcases List.mem_append.mp hq with q | q
    · exact hw w (by simp at q ⊢; rcases q with q | q | q <;> simp [q])
    · rcases List.mem_cons.mp q with q | q
      · subst q; exact hw _ (by simp)
      · exact q
  refine xcall (L' := L) (va_runS (As := As) (rest := st) ⟨C.1, C.2.1, C.2.2.1, C.own, C.W⟩ k (va_cwS n C.W hG rfl rfl rfl hh hR) ⟨xW_blind, xW_pre C hH hS⟩ rfl hn hL.1 rfl (lv_room h8) hd ⟨hcu, hsu⟩) hS ?_
  intro r h' nx' H1 locs1 hp hh1 hS1
  exact hp p e s m args below meth c C H1 locs1 ls hh1 hS1 hL
theorem r_callSN {M2 : xM} {idx n : Nat} {As st0 : List Value} (hnw : ∀ U : State, xT g U → va_Nw (.methodLinkNest (xm_y M).cls idx (xm_y M2) "StateShares") U) (hw : ∀ w ∈ [Cond.static (xm_y M2), .initialized (xm_y M2).cls, xcode M2], w ∈ lw_gd) (hh : xhand M2 n) (hR : xroom M M2) (hn : As.length = n) (hst : st0 = As.reverse ++ st) (h8 : (st.map fun v => v.category).sum ≤ 8) (hd : decode (xm_c M) pc = .ok (.invokestatic idx, 3)) (hcu : cu + (xm_r M2).cells ≤ (xm_r M).cells) (hsu : su + (xm_r M2).slots ≤ (xm_r M).slots)
    (k : Ct g M2 As h nx (fun r h' nx' => Blk g M post (pc + 3) L (r.toList ++ st) h' nx' (cu + (xm_r M2).cells) (su + (xm_r M2).slots))) : Blk g M post pc L st0 h nx cu su := by
  intro p e s m args below meth c C H locs ls hH hS hL
  subst hst
  have hG : GoodIn lw_gd (xcode M2 :: lw_gd) := lw_gd_good fun w hq => by
    rcases List.mem_cons.mp hq with q | q
    · subst q; exact hw _ (by simp)
    · exact q
  refine xcall (L' := L) (va_runSN (As := As) (rest := st) ⟨C.1, C.2.1, C.2.2.1, C.own, C.W⟩ k ⟨va_cnB n C.W hG rfl rfl rfl (hnw s C.F.1) (C.W _ (hw _ (by simp))) hh hR, C.W _ (hw _ (by simp)), trivial⟩ ⟨xW_blind, xW_pre C hH hS⟩ rfl hn hL.1 rfl (lv_room h8) hd ⟨hcu, hsu⟩) hS ?_
  intro r h' nx' H1 locs1 hp hh1 hS1
  exact hp p e s m args below meth c C H1 locs1 ls hh1 hS1 hL
/-! System.arraycopy of ints -/
theorem r_copyi {a0 a N0 N1 sp dp n idx : Nat} {f f1 : Nat → Int32} {isp idp inn : Int32} (h1 : Cond.methodLink (xm_y M).cls idx arraycopyName ∈ lw_gd) (h2 : Cond.native arraycopyName ∈ lw_gd) (h3 : Cond.static arraycopyName ∈ lw_gd) (h4 : Cond.initialized "java/lang/System" ∈ lw_gd) (hd : decode (xm_c M) pc = .ok (.invokestatic idx, 3)) (hf : 1 ≤ (xm_r M).frames) (hlo : (st.map fun v => v.category).sum + (nativeFrameWords "java/lang/System" "arraycopy" 5 + 11) ≤ (xm_r M).locals) (ha0 : h a0 = some (xia N0 f)) (ha : h a = some (xia N1 f1)) (e1 : isp = nI sp) (e2 : idp = nI dp) (e3 : inn = nI n) (hN : sp + n ≤ N0 ∧ dp + n ≤ N1 ∧ N0 < 2 ^ 31 ∧ N1 < 2 ^ 31) (k : Blk g M post (pc + 3) L st (xup h a (xia N1 (va_cpy f f1 sp dp n))) nx cu su) : Blk g M post pc L (.int inn :: .int idp :: .ref a :: .int isp :: .ref a0 :: st) h nx cu su := by
  intro p e s m args below meth c C H locs ls hH hS hL
  obtain ⟨n1, n2, n3, n4⟩ := hN
  subst e1 e2 e3
  obtain ⟨q0, hq0⟩ := xl_in (g := g) ha0 (hH.lt ha0)
  obtain ⟨q1, hq1⟩ := xl_in (g := g) ha (hH.lt ha)
  have c1 : (nI sp).toNatClampNeg = sp := nI_clamp (by omega)
  have c2 : (nI dp).toNatClampNeg = dp := nI_clamp (by omega)
  have c3 : (nI n).toNatClampNeg = n := nI_clamp (by omega)
  have hsz : H.size = nx := hH.1
  intro T hT X
  have hc0 : H[a0]? = some (vp_cell (gK g 0) (N0, .inl f)) := (hH.2 a0 _ ha0).2
  have hc1 : H[a]? = some (vp_cell (gK g 0) (N1, .inl f1)) := (hH.2 a _ ha).2
  have nn : ∀ z : Nat, z < 2 ^ 31 → (nI z).toInt = (z : Int) := fun z hz => nI_toInt hz
  obtain ⟨-, k0, hk0, cm0, hkk0⟩ := (C.K.2 0 _ rfl).1 N0 (fun j => .int (f j))
  obtain ⟨-, k1, hk1, cm1, hkk1⟩ := (C.K.2 0 _ rfl).1 N1 (fun j => .int (f1 j))
  obtain ⟨vm', X', step⟩ := X.arraycopy C.1 C.own (C.W _ h1) (C.W _ h2) (C.W _ h3) (C.W _ h4) (src := a0) (dst := a) (cs := vp_cell (gK g 0) (N0, .inl f)) (cd := vp_cell (gK g 0) (N1, .inl f1)) (srcPos := nI sp) (destPos := nI dp) (n := nI n) (by rw [hT]; exact hc0) (by rw [hT]; exact hc1)
    (fun _ h => by cases h) (fun _ h => by cases h) (fun h => by cases h) (fun h => by cases h) hk0 hk1 hkk0 hkk1 (by simp [refKind]) (nI_pos (by omega)) (nI_pos (by omega)) (nI_pos (by omega))
    (by rw [nn sp (by omega), nn n (by omega)]; show ¬ _ > ((arrV (gK g 0) N0 (fun j => .int (f j))).slots.size : Int); rw [arrV_size]; omega)
    (by rw [nn dp (by omega), nn n (by omega)]; show ¬ _ > ((arrV (gK g 0) N1 (fun j => .int (f1 j))).slots.size : Int); rw [arrV_size]; omega)
    (fun vm₁ _ i hi => by
      rw [c3] at hi
      have e : (vp_cell (gK g 0) (N0, .inl f)).slots.getD ((nI sp).toNatClampNeg + i) .null = .int (f (sp + i)) := by
        show (arrV (gK g 0) N0 (fun j => .int (f j))).slots.getD _ _ = _
        rw [c1, Array.getD_eq_getD_getElem?, arrV_read _ _ (by omega)]
        rfl
      refine ⟨?_, ?_⟩
      · rw [e]
        rfl
      · rw [e]
        exact trivial)
    (g := F0 m pc ls (.int (nI n) :: .int (nI dp) :: .ref a :: .int (nI sp) :: .ref a0 :: st)) rfl (by rw [C.2.2.1]; exact hL.1) (rest := st) rfl (by rw [C.2.1]; exact hd) hf (by show 2 * 0 + _ + _ ≤ _; omega)
  have e1 : copied (vp_cell (gK g 0) (N0, .inl f)) (vp_cell (gK g 0) (N1, .inl f1)) (nI sp) (nI dp) (nI n) = vp_cell (gK g 0) (N1, .inl (va_cpy f f1 (nI sp).toNatClampNeg (nI dp).toNatClampNeg (nI n).toNatClampNeg)) := va_copied (fun z => .int z) (gK g 0) (gK g 0) f f1 (by rw [c1, c3]; exact n1)
  rw [e1, c1, c2, c3] at X' step
  have hl : a < H.size := (Array.getElem?_eq_some_iff.mp hc1).1
  have hheap : ((T.setVm vm').setCell a (vp_cell (gK g 0) (N1, .inl (va_cpy f f1 sp dp n)))).heap = H.setIfInBounds a (vp_cell (gK g 0) (N1, .inl (va_cpy f f1 sp dp n))) := by rw [← hT]; rfl
  have oq : ∀ q : Nat, q ≠ a → (H.setIfInBounds a (vp_cell (gK g 0) (N1, .inl (va_cpy f f1 sp dp n))))[q]? = H[q]? := fun q hq => by simp [Array.getElem?_setIfInBounds, Ne.symm hq]
  obtain ⟨t, a1, b1⟩ := k p e s m args below meth c C _ _ ls (hH.set (hH.2 a _ ha).1 (by simp) oq (show (H.setIfInBounds a _)[a]? = some _ by simp [Array.getElem?_setIfInBounds, hl])) ⟨by simp; exact hS.1, fun q g1 g2 => by
      rw [oq q (fun e => g2 (by rw [e]; exact (hH.2 a _ ha).1))]
      exact hS.2.1 q g1 g2, fun q hq => by
      rcases List.mem_append.mp hq with h | h
      · exact hS.2.2 q h
      · obtain ⟨z, -, hz⟩ := List.mem_map.mp h
        rw [← hz]
        exact (hH.2 a _ ha).1⟩ hL _ hheap X'
  exact ⟨t, step t a1, b1⟩
/-! tableswitch, lookupswitch -/
theorem r_tswIn {dflt lo hi : Int} {offs : Array Int} {len : Nat} {x : Int32} {off : Int} {tgt : Nat} (hd : decode (xm_c M) pc = .ok (.tableswitch dflt lo hi offs, len)) (h1 : ¬ x.toInt < lo) (h2 : ¬ hi < x.toInt) (ho : offs[(x.toInt - lo).toNat]? = some off) (ht : (pc : Int) + off = (tgt : Int)) (k : Blk g M post tgt L st h nx cu su) : Blk g M post pc L (.int x :: st) h nx cu su :=
  fun p e s m args below meth c C H locs ls hH hS hL => lv_tableIn C.1 C.2.1 hd h1 h2 ho ht (k p e s m args below meth c C H locs ls hH hS hL)
theorem r_tswOut {dflt lo hi : Int} {offs : Array Int} {len : Nat} {x : Int32} {tgt : Nat} (hd : decode (xm_c M) pc = .ok (.tableswitch dflt lo hi offs, len)) (hx : x.toInt < lo ∨ hi < x.toInt) (ht : (pc : Int) + dflt = (tgt : Int)) (k : Blk g M post tgt L st h nx cu su) : Blk g M post pc L (.int x :: st) h nx cu su :=
  fun p e s m args below meth c C H locs ls hH hS hL => lv_tableOut C.1 C.2.1 hd hx ht (k p e s m args below meth c C H locs ls hH hS hL)
end R3
