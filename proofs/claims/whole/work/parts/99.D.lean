/-! a state of which nothing old is changed -/
theorem x_same {s t : State} {k n : Nat} (h : s.sameButNew t [] k n) : ∀ q : Nat, q < s.heap.size → t.heap[q]? = s.heap[q]? := by
  intro q hq
  obtain ⟨c, hc⟩ : ∃ c, s.heap[q]? = some c := ⟨_, Array.getElem?_eq_getElem hq⟩
  obtain ⟨c', h1, h2, -, h4⟩ := h.2.2.2.2.2 q c hc
  rw [h1, hc, h2]
  have : c'.slots = c.slots := Array.ext_getElem? fun i => h4 i (by simp)
  rw [this]
theorem x_drop {s t : State} {L : List Loc} {k n : Nat} (h : s.sameButNew t L k n) (hL : ∀ q ∈ L, s.heap.size ≤ q.base) : s.sameButNew t [] k n := by
  obtain ⟨h1, h2, h3, h4, h5, h6⟩ := h
  refine ⟨h1, h2, h3, h4, h5, fun a c hc => ?_⟩
  obtain ⟨c', q1, q2, q3, q4⟩ := h6 a c hc
  refine ⟨c', q1, q2, q3, fun i _ => q4 i fun hm => ?_⟩
  have z1 := hL _ hm
  have z2 := (Array.getElem?_eq_some_iff.mp hc).1
  have z3 : s.heap.size ≤ a := z1
  omega
/-! the rows over blocks that write nothing -/
abbrev xNo : Addr → Prop := fun _ => False
def BlkZ (g : xG) (M : xM) (K : xK) (Z : xZ) (pc : Nat) (L : List (Nat × Value)) (st : List Value) (h : xHp) (nx cu su : Nat) : Prop :=
  ∀ (p : Program) (e : Env) (s : State) (m : MethodId) (args : Array Value) (below : List Frame) (meth : Method) (c : Code), Cx g M p s m args meth c → K s args c →
  ∀ (H : Heap) (locs : List Loc) (ls : Array Slot), xH g h nx H → va_S xNo s.heap H locs → lv_has ls (xm_n M) L →
    W p (gL g) e (xm_r M) s m args below meth c H locs cu su (Z below args s) (F0 m pc ls st)
theorem va_S.no {g : xG} {H0 H : Heap} {locs : List Loc} (h : va_S xNo H0 H locs) : va_S (xA g) H0 H locs := ⟨h.1, fun q h1 _ => h.2.1 q h1 (fun z => z), fun l hl => (h.2.2 l hl).elim⟩
def ZRF (g : xG) (M : xM) (post : xPost) : xZ := fun below args s => MQ below (xQ g post) args s (xm_r M).cells (xm_r M).slots xNo
def CtF (g : xG) (M : xM) (args : List Value) (h : xHp) (nx : Nat) (post : xPost) : Prop :=
  Met (gL g) (xm_y M) (xcode M :: lw_gd) (xm_r M) (va_Pc args (xW g h nx)) (xQ g post) (xm_r M).cells (xm_r M).slots xNo
theorem CtT.ofZ {g : xG} {M : xM} {args : List Value} {h : xHp} {nx : Nat} (hy : plainName (xm_y M).cls = true) (hl : (lg_sl args).length ≤ xm_n M) (k : BlkZ g M (KN g) (ZT g M h (nx + 1)) 0 (lv_args 0 args) [] h nx 0 0) : CtT g M args h nx := by
  refine MetFree.of_bodyS (code := xm_c M) (maxLocals := xm_n M) (ret := xm_t M) hy ?_ ?_
  · intro args' s m h0 hn
    obtain ⟨meth, c, h1, h2, h3, h4, h5, h6, -, -⟩ := Cond.code_spec hn (atoms_spec (ws := xcode M :: lw_gd) h0 _ List.mem_cons_self)
    exact ⟨meth, c, h1, h2, h3, h4, h5, h6⟩
  · intro p e s m args' below meth c s₁ B hml hP _
    obtain ⟨rfl, ⟨hH, hF, hB⟩, hX⟩ := hP
    have hts := atoms_spec (ws := xcode M :: lw_gd) B.pre
    have hown : s.vm.findClass (xm_y M).cls = some m.cls := findClass_of_methodNamed B.named
    have hnh : c.exceptionTable.isEmpty = true := B.noHandlers (hts _ List.mem_cons_self)
    have hh0 : s₁.heap = s.heap := by rw [B.state]; rfl
    have K : W p (gL g) e (xm_r M) s m args.toArray below meth c s.heap [] 0 0 (ZT g M h (nx + 1) below args.toArray s) (entryFrame m args.toArray (xm_n M)) := by
      rw [lg_entry_eq]
      exact k p e s m _ below meth c ⟨B.exec, B.bytes, hml, B.returns, B.notSynchronized, (name_of_methodNamed B.named B.method).1, hown, fun w hw => hts w (List.mem_cons_of_mem _ hw), hF, hB⟩ ⟨hnh, hX⟩ s.heap [] _ hH va_S.rf (lv_entry args (n := xm_n M) hl)
    obtain ⟨t, a1, o, b1, b2, b3⟩ := K s₁ hh0 (Stand.of_body B)
    exact ⟨t, o, a1, b1, b2, b3⟩
abbrev K0 : xK := fun _ _ _ => True
theorem CtF.of {g : xG} {M : xM} {args : List Value} {h : xHp} {nx : Nat} {post : xPost} (hy : plainName (xm_y M).cls = true) (hl : (lg_sl args).length ≤ xm_n M) (k : BlkZ g M K0 (ZRF g M post) 0 (lv_args 0 args) [] h nx 0 0) : CtF g M args h nx post := by
  refine Met.ofW (cc := xm_c M) (maxL := xm_n M) (ret := xm_t M) hy rfl ?_
  intro p e s m args' below meth c s₁ B hml hv
  obtain ⟨rfl, hH, hF, hB⟩ := hv
  have hts := atoms_spec (ws := xcode M :: lw_gd) B.pre
  have hown : s.vm.findClass (xm_y M).cls = some m.cls := findClass_of_methodNamed B.named
  have hl0 := lv_entry args (n := xm_n M) hl
  rw [lg_entry_eq]
  exact k p e s m _ below meth c ⟨B.exec, B.bytes, hml, B.returns, B.notSynchronized, (name_of_methodNamed B.named B.method).1, hown, fun w hw => hts w (List.mem_cons_of_mem _ hw), hF, hB⟩ trivial s.heap [] _ hH va_S.rf hl0
section RP
variable {g : xG} {M : xM} {K : xK} {Z : xZ} {pc : Nat} {L : List (Nat × Value)} {st : List Value} {h : xHp} {nx cu su : Nat}
theorem z_iconst {n : Int} {v : Int32} (hd : decode (xm_c M) pc = .ok (.iconst n, 1)) (hv : Int32.ofInt n = v) (k : BlkZ g M K Z (pc + 1) L (.int v :: st) h nx cu su) : BlkZ g M K Z pc L (st) h nx cu su := fun p e s m args below meth c C hK H locs ls hH hS hL => lv_iconst C.1 C.2.1 hd hv (k p e s m args below meth c C hK H locs ls hH hS hL)
theorem z_iload_n (j : Nat) {kk : Fin 4} {i : Nat} {x : Int32} (hd : decode (xm_c M) pc = .ok (.iload_n kk, 1)) (hi : (kk : Nat) = i) (hl : L[j]? = some (i, .int x)) (k : BlkZ g M K Z (pc + 1) L (.int x :: st) h nx cu su) : BlkZ g M K Z pc L st h nx cu su := fun p e s m args below meth c C hK H locs ls hH hS hL => lv_iload_n C.1 C.2.1 hd hi (lv_at hL j hl) (k p e s m args below meth c C hK H locs ls hH hS hL)
theorem z_aload_n (j : Nat) {kk : Fin 4} {i : Nat} {x : Nat} (hd : decode (xm_c M) pc = .ok (.aload_n kk, 1)) (hi : (kk : Nat) = i) (hl : L[j]? = some (i, .ref x)) (k : BlkZ g M K Z (pc + 1) L (.ref x :: st) h nx cu su) : BlkZ g M K Z pc L st h nx cu su := fun p e s m args below meth c C hK H locs ls hH hS hL => lv_aload_n C.1 C.2.1 hd hi (lv_at hL j hl) (k p e s m args below meth c C hK H locs ls hH hS hL)
theorem z_if_ne {x : Int32} {off : Int} {tgt : Nat} (hd : decode (xm_c M) pc = .ok (.ifCond .ne off, 3)) (ht : (pc : Int) + off = (tgt : Int)) (kt : ¬ x = 0 → BlkZ g M K Z tgt L st h nx cu su) (kf : x = 0 → BlkZ g M K Z (pc + 3) L st h nx cu su) : BlkZ g M K Z pc L (.int x :: st) h nx cu su := fun p e s m args below meth c C hK H locs ls hH hS hL => lv_if_ne C.1 C.2.1 hd ht (fun q => kt q p e s m args below meth c C hK H locs ls hH hS hL) (fun q => kf q p e s m args below meth c C hK H locs ls hH hS hL)
theorem z_if_lt {x : Int32} {off : Int} {tgt : Nat} (hd : decode (xm_c M) pc = .ok (.ifCond .lt off, 3)) (ht : (pc : Int) + off = (tgt : Int)) (kt : x < 0 → BlkZ g M K Z tgt L st h nx cu su) (kf : ¬ x < 0 → BlkZ g M K Z (pc + 3) L st h nx cu su) : BlkZ g M K Z pc L (.int x :: st) h nx cu su := fun p e s m args below meth c C hK H locs ls hH hS hL => lv_if_lt C.1 C.2.1 hd ht (fun q => kt q p e s m args below meth c C hK H locs ls hH hS hL) (fun q => kf q p e s m args below meth c C hK H locs ls hH hS hL)
theorem z_icmp_ge {x y : Int32} {off : Int} {tgt : Nat} (hd : decode (xm_c M) pc = .ok (.if_icmp .ge off, 3)) (ht : (pc : Int) + off = (tgt : Int)) (kt : y ≤ x → BlkZ g M K Z tgt L st h nx cu su) (kf : ¬ y ≤ x → BlkZ g M K Z (pc + 3) L st h nx cu su) : BlkZ g M K Z pc L (.int y :: .int x :: st) h nx cu su := fun p e s m args below meth c C hK H locs ls hH hS hL => lv_icmp_ge C.1 C.2.1 hd ht (fun q => kt q p e s m args below meth c C hK H locs ls hH hS hL) (fun q => kf q p e s m args below meth c C hK H locs ls hH hS hL)
theorem z_goto {off : Int} {tgt : Nat} (hd : decode (xm_c M) pc = .ok (.goto off, 3)) (ht : (pc : Int) + off = (tgt : Int)) (k : BlkZ g M K Z tgt L st h nx cu su) : BlkZ g M K Z pc L st h nx cu su := fun p e s m args below meth c C hK H locs ls hH hS hL => lv_goto C.1 C.2.1 hd ht (k p e s m args below meth c C hK H locs ls hH hS hL)
theorem z_getf {a ci kf idx : Nat} {fs : List Value} {v : Value} {C0 : String} {T : u_T} {N : Nat} (hc : vwCl[ci]? = some (C0, T, N)) (hin : ∀ w ∈ u_ws C0 T N, w ∈ lw_gd) (hk : kf < N) (hlink : Cond.fieldLink (xm_y M).cls idx (T kf).1 (T kf).2.1 (T kf).2.2.1 ∈ lw_gd) (hd : decode (xm_c M) pc = .ok (.getfield idx, 3)) (ha : h a = some (xo ci fs)) (hv : fs[kf]? = some v) (k : BlkZ g M K Z (pc + 3) L (v :: st) h nx cu su) : BlkZ g M K Z pc L (.ref a :: st) h nx cu su :=
  fun p e s m args below meth c C hK H locs ls hH hS hL => va_get C.1 C.2.1 C.2.2.2.2.2.2.2.1 hin C.2.2.2.2.2.2.1 C.2.2.2.2.2.2.2.2.1.1.1 (xat_P hH ha) 0 rfl hc kf hk (C.2.2.2.2.2.2.2.1 _ hlink) (fun _ q => q) hv hd (k p e s m args below meth c C hK H locs ls hH hS hL)
theorem z_if_neN {a : Nat} {off : Int} {tgt : Nat} (hd : decode (xm_c M) pc = .ok (.ifCond .ne off, 3)) (ht : (pc : Int) + off = (tgt : Int)) (hs : a < 2 ^ 31) (kt : ¬ a = 0 → BlkZ g M K Z tgt L st h nx cu su) (kf : a = 0 → BlkZ g M K Z (pc + 3) L st h nx cu su) : BlkZ g M K Z pc L (.int (nI a) :: st) h nx cu su := z_if_ne hd ht (fun q => kt (fun z => q (by rw [z]; rfl))) (fun q => kf ((nI_eq hs (by decide)).mp (q.trans n_z)))
theorem z_zret {post : xPost} {v : Int32} {ty : FieldType} (hd : decode (xm_c M) pc = .ok (.ireturn, 1)) (hr : xm_t M = some ty) (hn : narrow ty (.int v) = .int v) (h1 : cu ≤ (xm_r M).cells) (h2 : su ≤ (xm_r M).slots) (hp : post (some (.int v)) h nx) : BlkZ g M K (ZRF g M post) pc L [.int v] h nx cu su :=
  fun p e s m args below meth c C _ H locs ls hH hS hL => W.widen h1 h2 (W.zret C.1 C.2.1 (C.2.2.2.1.trans hr) hn (fun t ht _ => ⟨⟨_, h, nx, rfl, hp, by rw [ht]; exact hH⟩, hS.no.F ht⟩) hS.2.2 hd C.2.2.2.2.1)
theorem z_callV {M2 : xM} {a ci idx n : Nat} {As st0 : List Value} {fs : List Value} {T : u_T} {N : Nat} (hc : vwCl[ci]? = some ((xm_y M2).cls, T, N)) (hw : ∀ w ∈ [Cond.methodLink (xm_y M).cls idx (xm_y M2), .instanceMethod (xm_y M2), .selects (xm_y M2).cls (xm_y M2) (xm_y M2), .initialized (xm_y M2).cls, xcode M2], w ∈ lw_gd) (hh : xhand M2 n) (hR : xroom M M2) (hn : As.length = n) (hst : st0 = As.reverse ++ .ref a :: st) (h8 : (st.map fun v => v.category).sum ≤ 8) (hd : decode (xm_c M) pc = .ok (.invokevirtual idx, 3)) (ha : h a = some (xo ci fs)) (hcu : cu + (xm_r M2).cells ≤ (xm_r M).cells) (hsu : su + (xm_r M2).slots ≤ (xm_r M).slots)
    (k : CtF g M2 (.ref a :: As) h nx (fun r h' nx' => BlkZ g M K Z (pc + 3) L (r.toList ++ st) h' nx' (cu + (xm_r M2).cells) (su + (xm_r M2).slots))) : BlkZ g M K Z pc L st0 h nx cu su := by
  intro p e s m args below meth c C hK H locs ls hH hS hL
  subst hst
  have hG : GoodIn lw_gd (wsV (xm_y M).cls idx (xm_y M2).cls (xm_y M2) (xcode M2 :: lw_gd)) := lw_gd_good fun w hq => by
    unfold wsV at hq
    rcases List.mem_append.mp hq with q | q
    · exact hw w (by simp at q ⊢; rcases q with q | q | q | q <;> simp [q])
    · rcases List.mem_cons.mp q with q | q
      · subst q; exact hw _ (by simp)
      · exact q
  have hr := va_runV (e := e) (below := below) (meth := meth) (locs := locs) (cells := cu) (slots := su) (g := F0 m pc ls (As.reverse ++ .ref a :: st)) (As := As) (rest := st) ⟨C.1, C.2.1, C.2.2.1, C.own, C.W⟩ k (cwV (R := xm_r M) n C.W hG rfl rfl rfl ⟨rfl, hh⟩ hR) ⟨xW_blind, va_recv C.K (xat_P hH ha) hc (q0 := 0) rfl, xW_pre C hH hS.no⟩ rfl hn hL.1 rfl (lv_room h8) hd ⟨hcu, hsu⟩
  intro U hU X
  obtain ⟨v, st₀, t, T', Lc, h0, X', hLc, e1, e2, ⟨⟨r, h', nx', hv, hp, hh⟩, hz, hk⟩, stp⟩ := hr U hU X
  cases hv
  have hnil : locs ++ Lc = [] := by
    apply List.eq_nil_iff_forall_not_mem.mpr
    intro q hq
    rcases List.mem_append.mp hq with z | z
    · exact hS.2.2 q z
    · exact hLc q z
  have hsm : ∀ q : Nat, q < s.heap.size → T'.heap[q]? = s.heap[q]? := by
    have := X'.same
    rw [hnil] at this
    exact x_same (t := T'.setVm s.vm) this
  obtain ⟨t2, a1, b1⟩ := hp p e s m args below meth c C hK T'.heap (locs ++ Lc) ls (by rw [e1]; exact hh) ⟨X'.same.2.1, fun q h1 _ => hsm q h1, fun l hl => by rw [hnil] at hl; cases hl⟩ hL T' rfl X'
  exact ⟨t2, stp t2 a1, b1⟩
end RP
set_option maxRecDepth 20000 in
theorem f_isState_0 {g : xG} {post : xPost} {h : xHp} {nx : Nat} {x0 : Nat} {x1 : Int32} (V : ((x1 < 0 → (post (some (.int (nI 0))) h nx)) ∧ (¬ x1 < 0 → (∃ (o2 : Nat) (o3 : Nat) (o4 : Nat) (o5 : Nat) (o6 : Nat) (o7 : Nat) (o8 : Nat) (o9 : Nat), h x0 = some (xo 10 [.int (nI o2), .ref o3, .ref o4, .ref o5, .ref o6, .ref o7, .ref o8, .int (nI o9)]) ∧ (((nI o2) ≤ x1 → (post (some (.int (nI 0))) h nx)) ∧ (¬ (nI o2) ≤ x1 → (post (some (.int (nI 1))) h nx))))))) : BlkZ g M_X9_isState K0 (ZRF g M_X9_isState post) 0 [(0, .ref x0), (1, .int x1)] [] h nx 0 0 := by
  refine z_iload_n 1 dX9_isState_0 rfl rfl ?_
  refine z_if_lt (tgt := 16) dX9_isState_1 (by decide) (fun c => ?_) (fun c => ?_)
  · have V := V.1 c
    refine z_iconst (v := (nI 0)) dX9_isState_16 rfl ?_
    exact z_zret (ty := .boolean) dX9_isState_17 rfl rfl (by decide) (by decide) V
  · have V := V.2 c
    refine z_iload_n 1 dX9_isState_4 rfl rfl ?_
    refine z_aload_n 0 dX9_isState_5 rfl rfl ?_
    obtain ⟨o2, o3, o4, o5, o6, o7, o8, o9, q1, V⟩ := V
    refine z_getf (ci := 10) (kf := 0) (T := TX9) rfl in_X9 (by decide) wF_X9_18 dX9_isState_6 q1 rfl ?_
    refine z_icmp_ge (tgt := 16) dX9_isState_9 (by decide) (fun c => ?_) (fun c => ?_)
    · have V := V.1 c
      refine z_iconst (v := (nI 0)) dX9_isState_16 rfl ?_
      exact z_zret (ty := .boolean) dX9_isState_17 rfl rfl (by decide) (by decide) V
    · have V := V.2 c
      refine z_iconst (v := (nI 1)) dX9_isState_12 rfl ?_
      refine z_goto (tgt := 17) dX9_isState_13 (by decide) ?_
      exact z_zret (ty := .boolean) dX9_isState_17 rfl rfl (by decide) (by decide) V
set_option maxRecDepth 20000 in
theorem wCl_AX : Cond.classLink "StateShares" 202 AX ∈ lw_gd := by decide +kernel
set_option maxRecDepth 20000 in
theorem wIn_AX : Cond.instantiable AX 6 ∈ lw_gd := by decide +kernel
set_option maxRecDepth 20000 in
theorem wI_AX : Cond.initialized AX ∈ lw_gd := by decide +kernel
theorem dT_8 : decode cX9_needState 8 = .ok (.new 202, 3) := dX9_needState_8
theorem dT_11 : decode cX9_needState 11 = .ok (.dup, 1) := by decide +kernel
theorem dT_12 : decode cX9_needState 12 = .ok (.ldc 204, 2) := by decide +kernel
theorem dT_14 : decode cX9_needState 14 = .ok (.invokespecial 206, 3) := by decide +kernel
theorem dT_17 : decode cX9_needState 17 = .ok (.athrow, 1) := by decide +kernel
section NS
variable {g : xG} {post : xPost} {h : xHp} {nx : Nat}
theorem f_isState {S n : Nat} {o1 o2 o3 o4 o5 o6 o7 : Nat} {x : Int32} (hS : h S = some (xo 10 [.int (nI n), .ref o1, .ref o2, .ref o3, .ref o4, .ref o5, .ref o6, .int (nI o7)])) (hb : x < 0 ∨ nI n ≤ x) (hp : post (some (.int (nI 0))) h nx) : CtF g M_X9_isState [.ref S, .int x] h nx post :=
  CtF.of (by decide +kernel) (Nat.le_of_ble_eq_true rfl) (f_isState_0 ⟨fun _ => hp, fun c => ⟨_, _, _, _, _, _, _, _, hS, fun _ => hp, fun z => by
    rcases hb with q | q
    · exact absurd q c
    · exact absurd q z⟩⟩)
theorem x_throw {S : Nat} {x : Int32} (htr : (gL g).stackTraces = false) : BlkZ g M_X9_needState (KN g) (ZT g M_X9_needState h (nx + 1)) 8 [(0, .ref S), (1, .int x)] [] h nx 0 0 := by
  intro p e s m args below meth c C hK H locs ls hH hS hL
  have hnil : locs = [] := List.eq_nil_iff_forall_not_mem.mpr fun q hq => hS.2.2 q hq
  subst hnil
  refine W.newc C.1 C.2.1 C.own (C.W _ wCl_AX) (C.W _ wIn_AX) (C.W _ wI_AX) rfl dT_8 (by decide) (by decide) fun cC kC f1 f2 f3 f4 => ?_
  show W _ _ _ _ _ _ _ _ _ _ _ _ _ _ _ (F0 m 11 ls [.ref H.size])
  refine lv_dup C.1 C.2.1 dT_11 rfl ?_
  show W _ _ _ _ _ _ _ _ _ _ _ _ _ _ _ (F0 m 12 ls [.ref H.size, .ref H.size])
  refine va_ldcS C.1 C.2.1 C.own (C.F.1.2.2.2 10 ("StateShares", 204, "no such state") rfl) dT_12 ?_
  show W _ _ _ _ _ _ _ _ _ _ _ _ _ _ _ (F0 m 14 ls [.ref (gS g 10), .ref H.size, .ref H.size])
  intro U hU X
  have hpush : (H.push ({ cls := cC, slots := kC.instanceTypes.map defaultValue, vm := .none } : Cell))[H.size]? = some { cls := cC, slots := kC.instanceTypes.map defaultValue, vm := .none } := Array.getElem?_push_size
  have hat : ∀ a ∈ Jvm.Bundle.ownAtoms "StateShares" 206 AX axN, a.before args s = true := fun a ha => by
    rcases own_in a ha with z | z
    · exact C.W _ z
    · exact hK.2.now args a z
  have htr2 : e.platform.stackTraces = false := by rw [X.admits.platform]; exact htr
  obtain ⟨V, stp, hrun, hend, hW, hsame, ce, hce, hoc⟩ := X.ctorThrowS C.1 htr2 (own := "StateShares") (cls := AX) (names := axN) (ic := 206) C.own (by decide +kernel) (by decide +kernel) hat (fun x hx => by cases hx) f1 f2 (a := H.size) (by rw [hU]; exact hpush) hS.1 (msg := .ref (gS g 10)) rfl (g := F0 m 14 ls [.ref (gS g 10), .ref H.size, .ref H.size]) rfl (by rw [C.2.2.1]; exact hL.1) rfl rfl (rest := []) rfl (by rw [C.2.1]; exact dT_14) (by rw [C.2.1]; exact dT_17) (fun y hy => by rw [Array.isEmpty_iff.mp hK.1] at hy; simp at hy) (by decide) (Nat.le_of_ble_eq_true rfl) C.2.2.2.2.1
  have hsm := x_same hsame
  have hsm2 : ∀ q : Nat, q < s.heap.size → V.heap[q]? = s.heap[q]? := hsm
  have hz : V.heap.size = nx + 1 := by
    have z1 : V.heap.size ≤ s.heap.size + (0 + 1) := hsame.2.2.1
    have z2 := (Array.getElem?_eq_some_iff.mp hce).1
    have z3 := hS.1
    have z4 := hH.1
    omega
  have hHs : H.size = s.heap.size := by
    have z1 : V.heap.size ≤ s.heap.size + (0 + 1) := hsame.2.2.1
    have z3 := hS.1
    have z4 := hH.1
    omega
  refine ⟨V, stp, _, hrun, hend, ⟨H.size, rfl, ⟨hz, fun a e' ha => ?_⟩, ⟨hsame.2.1, fun q h1 _ => hsm2 q h1⟩, ce, hce, hoc.vm, hoc.cls⟩, [], ⟨hW, hsame⟩, fun q hq => by cases hq⟩
  have hlt := hH.lt ha
  refine ⟨(hH.2 a e' ha).1, (hH.2 a e' ha).2.kept ?_⟩
  rw [hsm2 a (by rw [← hHs, hH.1]; exact hlt), hS.2.1 a (by rw [← hHs, hH.1]; exact hlt) (fun z => z)]
theorem t_needState {S n : Nat} {o1 o2 o3 o4 o5 o6 o7 : Nat} {x : Int32} (htr : (gL g).stackTraces = false) (hS : h S = some (xo 10 [.int (nI n), .ref o1, .ref o2, .ref o3, .ref o4, .ref o5, .ref o6, .int (nI o7)])) (hb : x < 0 ∨ nI n ≤ x) : CtT g M_X9_needState [.ref S, .int x] h nx := by
  refine CtT.ofZ (by decide +kernel) (Nat.le_of_ble_eq_true rfl) ?_
  show BlkZ g M_X9_needState (KN g) (ZT g M_X9_needState h (nx + 1)) 0 [(0, .ref S), (1, .int x)] [] h nx 0 0
  refine z_aload_n 0 dX9_needState_0 rfl rfl ?_
  refine z_iload_n 1 dX9_needState_1 rfl rfl ?_
  refine z_callV (M2 := M_X9_isState) (ci := 10) (n := 1) (As := [.int x]) rfl (wl5 wM_X9_132 wi_X9_isState wS_X9_isState wI_StateShares wc_X9_isState) (by decide +kernel) (by decide) rfl rfl (Nat.le_of_ble_eq_true rfl) dX9_needState_2 hS (by decide) (by decide) (f_isState hS hb ?_)
  show BlkZ g M_X9_needState (KN g) (ZT g M_X9_needState h (nx + 1)) 5 [(0, .ref S), (1, .int x)] [.int (nI 0)] h nx 0 0
  exact z_if_neN (tgt := 18) dX9_needState_5 (by decide) (by decide) (fun c => absurd rfl c) (fun _ => x_throw htr)
end NS
