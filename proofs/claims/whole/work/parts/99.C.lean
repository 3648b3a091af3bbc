/-! methods that throw -/
def xEx (s : State) (H : Heap) (x : Nat) : Prop := ∃ ce : Cell, H[x]? = some ce ∧ ce.vm = .none ∧ s.vm.findClass AX = some ce.cls
def xQT (g : xG) (h : xHp) (nx : Nat) : Array Value → State → Outcome → State → Prop := fun _ st oc t => ∃ x : Addr, oc = .threw x ∧ xH g h nx t.heap ∧ va_F (xA g) st t ∧ xEx st t.heap x
def xFE (first t : State) (L : List Loc) (k n : Nat) : Prop := first.WarmedH t.vm ∧ first.sameButNew ({ t with vm := first.vm } : State) L k n
abbrev xWX (g : xG) (h : xHp) (nx : Nat) (U : State) : Prop := xW g h nx U ∧ xX g U U.heap
abbrev KN (g : xG) : xK := fun s _ c => c.exceptionTable.isEmpty = true ∧ xX g s s.heap
def ZT (g : xG) (M : xM) (h : xHp) (nx : Nat) : xZ := fun below args s t => ∃ o, t.status = .running ∧ Ended t below o ∧ xQT g h nx args s o t ∧ ∃ L, xFE s t L (xm_r M).cells (xm_r M).slots ∧ ∀ q ∈ L, xA g q.base
def CtT (g : xG) (M : xM) (args : List Value) (h : xHp) (nx : Nat) : Prop :=
  MetFree (gL g) (xm_y M) (headSpec (xcode M :: lw_gd) (xm_r M)) (va_Pc args (xWX g h nx)) (fun _ _ _ _ _ => True) (fun a st o t => xQT g h (nx + 1) a st o t ∧ ∃ L, xFE st t L (xm_r M).cells (xm_r M).slots ∧ ∀ q ∈ L, xA g q.base)
theorem xWX_blind {g : xG} {h : xHp} {nx : Nat} {av : List Value} : FrameBlind (va_Pc av (xWX g h nx)) := by
  intro a U gf mk q
  obtain ⟨q0, q1, q2⟩ := q
  exact ⟨q0, (xW_blind a U gf mk ⟨q0, q1⟩).2, q2.kept (Vm.Alike.refl U.vm) (Nat.le_refl _) (fun _ _ _ => rfl)⟩
theorem CtT.of {g : xG} {M : xM} {args : List Value} {h : xHp} {nx : Nat} (hy : plainName (xm_y M).cls = true) (hl : (lg_sl args).length ≤ xm_n M) (k : BlkY g M (KN g) (ZT g M h (nx + 1)) 0 (lv_args 0 args) [] h nx 0 0) : CtT g M args h nx := by
  refine MetFree.of_bodyS (code := xm_c M) (maxLocals := xm_n M) (ret := xm_t M) hy ?_ ?_
  · intro args' s m h0 hn
    obtain ⟨meth, c, h1, h2, h3, h4, h5, h6, -, -⟩ := Cond.code_spec hn (atoms_spec (ws := xcode M :: lw_gd) h0 _ List.mem_cons_self)
    exact ⟨meth, c, h1, h2, h3, h4, h5, h6⟩
  · intro p e s m args' below meth c s₁ B hml hP _
    obtain ⟨rfl, ⟨hH, hF, hB⟩, hX⟩ := hP
    have hts := atoms_spec (ws := xcode M :: lw_gd) B.pre
    have hown : s.vm.findClass (xm_y M).cls = some m.cls := findClass_of_methodNamed B.named
    have hnh : c.exceptionTable.isEmpty = true := B.noHandlers (hts _ List.mem_cons_self)
    have hh0 : s₁.heap = s.heap := by rw [B.state]; rfl
    have K : W p (gL g) e (xm_r M) s m args.toArray below meth c s.heap [] 0 0 (ZT g M h (nx + 1) below args.toArray s) (entryFrame m args.toArray (xm_n M)) := by
      rw [lg_entry_eq]
      exact k p e s m _ below meth c ⟨B.exec, B.bytes, hml, B.returns, B.notSynchronized, (name_of_methodNamed B.named B.method).1, hown, fun w hw => hts w (List.mem_cons_of_mem _ hw), hF, hB⟩ ⟨hnh, hX⟩ s.heap [] _ hH va_S.rf (lv_entry args (n := xm_n M) hl)
    obtain ⟨t, a1, o, b1, b2, b3⟩ := K s₁ hh0 (Stand.of_body B)
    exact ⟨t, o, a1, b1, b2, b3⟩
section THR
variable {g : xG} {M : xM} {pc : Nat} {L : List (Nat × Value)} {st : List Value} {h : xHp} {nx cu su : Nat}
theorem xWX_pre {p : Program} {s : State} {m : MethodId} {args : Array Value} {meth : Method} {c : Code} {H : Heap} {locs : List Loc} (C : Cx g M p s m args meth c) (hX : xX g s s.heap) (hH : xH g h nx H) (hS : va_S (xA g) s.heap H locs) {av : List Value} : ∀ U : State, U.heap = H → s.WarmedH U.vm → va_Pc av (xWX g h nx) av.toArray U := by
  intro U hU hW
  obtain ⟨q0, q1⟩ := xW_pre (av := av) C hH hS U hU hW
  refine ⟨q0, q1, ?_⟩
  rw [hU]
  exact hX.kept hW.alike hS.1 hS.2.1
theorem x_thrown {M2 : xM} {a ci idx n : Nat} {As : List Value} {fs : List Value} {T : u_T} {N : Nat} (hc : vwCl[ci]? = some ((xm_y M2).cls, T, N)) (hw : ∀ w ∈ [Cond.methodLink (xm_y M).cls idx (xm_y M2), .instanceMethod (xm_y M2), .selects (xm_y M2).cls (xm_y M2) (xm_y M2), .initialized (xm_y M2).cls, xcode M2], w ∈ lw_gd) (hh : xhand M2 n) (hR : xroom M M2) (hn : As.length = n) (h8 : (st.map fun v => v.category).sum ≤ 8) (hd : decode (xm_c M) pc = .ok (.invokevirtual idx, 3)) (ha : h a = some (xo ci fs)) (hcu : cu + (xm_r M2).cells ≤ (xm_r M).cells) (hsu : su + (xm_r M2).slots ≤ (xm_r M).slots) (k : CtT g M2 (.ref a :: As) h nx)
    {p : Program} {e : Env} {s : State} {m : MethodId} {args : Array Value} {below : List Frame} {meth : Method} {c : Code} (C : Cx g M p s m args meth c) (hX : xX g s s.heap) {H : Heap} {locs : List Loc} {ls : Array Slot} (hH : xH g h nx H) (hS : va_S (xA g) s.heap H locs) (hL : lv_has ls (xm_n M) L) {U : State} (hU : U.heap = H) (X : Stand p (gL g) e (xm_r M) s m args below meth c U locs cu su) :
    ∃ (x : Addr) (U' : State) (Lc : List Loc), Stand p (gL g) e (xm_r M) s m args below meth c U' (locs ++ Lc) (cu + (xm_r M2).cells) (su + (xm_r M2).slots) ∧ xH g h (nx + 1) U'.heap ∧ va_S (xA g) s.heap U'.heap (locs ++ Lc) ∧ xEx s U'.heap x ∧ Steps p.tables e below (U.setTop (F0 m pc ls (As.reverse ++ .ref a :: st))) ((U'.setTop (F0 m pc ls st)).pushFrame (.throwing x)) := by
  have hG : GoodIn lw_gd (wsV (xm_y M).cls idx (xm_y M2).cls (xm_y M2) (xcode M2 :: lw_gd)) := lw_gd_good fun w hq => by
    unfold wsV at hq
    rcases List.mem_append.mp hq with q | q
    · exact hw w (by simp at q ⊢; rcases q with q | q | q | q <;> simp [q])
    · rcases List.mem_cons.mp q with q | q
      · subst q; exact hw _ (by simp)
      · exact q
  have cw := cwV (R := xm_r M) (rm := xm_r M2) n C.W hG rfl rfl rfl ⟨rfl, hh⟩ hR
  obtain ⟨⟨-, -, hfr, hlo, hws, hcw, hcode, hini, hy, hlen, hl⟩, hin, hse⟩ := cw
  obtain ⟨cellB, hcB, hoB, hclB⟩ := va_recv C.K (xat_P hH ha) hc (q0 := 0) rfl
  obtain ⟨mk, methM, hnamed, hmethM, hstM, habM⟩ := Cond.instanceMethod_spec hin
  obtain ⟨methM', cM, hmethM', -, -, -, -, -, -, hsigM⟩ := Cond.code_spec hnamed hcode
  cases hmethM.symm.trans hmethM'
  obtain ⟨c2, r2, m2, q1, q2, q3, q4, kP, hkP, hkPi⟩ := Cond.selects_spec hse
  cases hclB.symm.trans q1
  cases (State.methodFound?_of_named hnamed hy).symm.trans q2
  cases hnamed.symm.trans q3
  have hselP : selectMethod e.platform s.vm cellB.cls mk = .method mk := by rw [Launch.admits_selectMethod X.admits]; exact q4
  obtain ⟨vm₁, X₁, hstep₁⟩ := X.invokevirtual C.1 C.own hl hnamed hmethM hstM hkP hkPi hy (a := a) (cell := cellB) (by rw [hU]; exact hcB) (fun z h => by rw [h] at hoB; cases hoB) hselP hmethM habM hkP hkPi (g := F0 m pc ls (As.reverse ++ .ref a :: st)) rfl (argsL := As) (rest := st) (hn.trans (hlen _ hsigM)) rfl (by rw [C.2.1]; exact hd)
  have hnm := X₁.named hnamed
  have hdg : decode c.code (F0 m pc ls st).pc = .ok (.invokevirtual idx, 3) := by rw [C.2.1]; exact hd
  obtain ⟨methY, cY, hmY, hcY, -, hlY, -, -, -, -⟩ := Cond.code_spec hnm (hws _ hcw (Value.ref a :: As).toArray _ X₁.warmed)
  obtain ⟨kY, hkY, -⟩ := className_of_methodNamed hnm
  have hinitY : kY.init = .initialized := Cond.initialized_spec (findClass_of_methodNamed hnm) hkY (word_at (a' := (Value.ref a :: As).toArray) X₁.warmed (Or.inl (by first | rfl | simp [Cond.onTables, Cond.keeps, Cond.steady])) hini)
  have happ : (headSpec (xcode M2 :: lw_gd) (xm_r M2)).appliesLoose (xm_y M2) e.platform ((U.setVm vm₁).calling (F0 m pc ls st) mk (Value.ref a :: As).toArray) = true :=
    Spec.appliesLoose_calling (g := F0 m pc ls st) X₁.here hdg hnm hkY hinitY
      (X₁.room_calling (g := F0 m pc ls st) (R' := xm_r M2) (by rw [C.2.2.1]; exact hL.1) hmY hcY hfr (by rw [hlY]; show 2 * 0 + (st.map fun v => v.category).sum + (xm_n M2 + 11) + (xm_r M2).locals ≤ _; omega) hcu hsu)
      (atoms_intro fun w hw => hws w hw _ _ X₁.warmed)
  obtain ⟨mid, hmid⟩ := X₁.here.above
  have hfrm : ((U.setVm vm₁).setTop (F0 m pc ls st)).frames = (.java (F0 m pc ls st) :: mid) ++ below := by rw [State.frames_setTop' _ X₁.here.top, hmid]; rfl
  obtain ⟨o, s₂, hsteps, -, hend, hq⟩ := Steps.callFree k p X₁.admits X₁.cas X₁.clock (acts := []) hfrm happ (xWX_blind _ _ _ _ (xWX_pre C hX hH hS (U.setVm vm₁) hU X₁.warmed)) trivial
  obtain ⟨⟨x, rfl, hxH, hxF, hxE⟩, Lc, ⟨hW2, hsame⟩, hLc⟩ := hq
  rw [State.frames_setTop' _ X₁.here.top, X₁.tail] at hend
  obtain ⟨U', X', hW', hs', et⟩ := X₁.outOfThrown (g := F0 m pc ls st) rfl hend hW2 hsame
  have ehp : s₂.heap = U'.heap := by rw [et]; simp [State.pushFrame, State.setFrames, State.setTop, State.modifyTopJava]
  have hxF2 : H.size ≤ U'.heap.size ∧ ∀ q : Nat, q < H.size → ¬ xA g q → U'.heap[q]? = H[q]? := by
    rw [← ehp, ← hU]
    exact hxF
  refine ⟨x, U', Lc, X', by rw [← ehp]; exact hxH, ⟨Nat.le_trans hS.1 hxF2.1, fun q h1 h2 => (hxF2.2 q (Nat.lt_of_lt_of_le h1 hS.1) h2).trans (hS.2.1 q h1 h2), ?_⟩, ?_, ?_⟩
  · intro q hq
    rcases List.mem_append.mp hq with z | z
    · exact hS.2.2 q z
    · exact hLc q z
  · obtain ⟨ce, e1, e2, e3⟩ := hxE
    refine ⟨ce, by rw [← ehp]; exact e1, e2, ?_⟩
    have hf := X₁.warmed.alike.findClass AX none
    exact hf.symm.trans e3
  · rw [← et]
    exact hstep₁ _ fun acts => by rw [doInvoke_state]; exact hsteps
theorem y_callVL {M2 : xM} {a ci idx n : Nat} {As st0 : List Value} {fs : List Value} {T : u_T} {N : Nat} (hc : vwCl[ci]? = some ((xm_y M2).cls, T, N)) (hw : ∀ w ∈ [Cond.methodLink (xm_y M).cls idx (xm_y M2), .instanceMethod (xm_y M2), .selects (xm_y M2).cls (xm_y M2) (xm_y M2), .initialized (xm_y M2).cls, xcode M2], w ∈ lw_gd) (hh : xhand M2 n) (hR : xroom M M2) (hn : As.length = n) (hst : st0 = As.reverse ++ .ref a :: st) (h8 : (st.map fun v => v.category).sum ≤ 8) (hd : decode (xm_c M) pc = .ok (.invokevirtual idx, 3)) (ha : h a = some (xo ci fs)) (hcu : cu + (xm_r M2).cells ≤ (xm_r M).cells) (hsu : su + (xm_r M2).slots ≤ (xm_r M).slots) (k : CtT g M2 (.ref a :: As) h nx) : BlkY g M (KN g) (ZT g M h (nx + 1)) pc L st0 h nx cu su := by
  intro p e s m args below meth c C hK H locs ls hH hS hL U hU X
  subst hst
  obtain ⟨x, U', Lc, X', e1, e2, e3, stp⟩ := x_thrown hc hw hh hR hn h8 hd ha hcu hsu k C hK.2 hH hS hL hU X
  obtain ⟨w1, w2, w3, w4, w5⟩ := X'.leaveThrown x (g := F0 m pc ls st) rfl rfl rfl (fun y hy => by rw [Array.isEmpty_iff.mp hK.1] at hy; simp at hy) C.2.2.2.2.1
  exact ⟨_, stp.trans w1, .threw x, w2, w3, ⟨x, rfl, e1, e2.F rfl, e3⟩, locs ++ Lc, ⟨w4, w5.mono hcu hsu⟩, e2.2.2⟩
end THR
/-! a throw that is caught -/
section CAU
variable {p : Program} {l : Launch} {e : Env} {R : Room} {s : State} {m : MethodId} {args : Array Value} {below : List Frame} {meth : Method} {c : Code} {T : State} {locs : List Loc} {cells slots : Nat}
theorem x_go {u : State} {f : JFrame} {x : Addr} {en : ExceptionTableEntry} {ce : Cell} {k : Class} {Q : Handler → Pre} {E : CtlPost} {d : Bool} {acts : List Action} (hx : covers en f.pc = true) (h0 : en.catchType ≠ 0) (hl : u.vm.ClassLinks e.platform f.method.cls en.catchType ce.cls) (hce : u.heap[x]? = some ce) (hn : ∀ k, ce.vm ≠ .statics k) (hk : (u.vm.noted f.method.cls en.catchType (.cls ce.cls)).classes[ce.cls]? = some k) (hfit : (u.vm.noted f.method.cls en.catchType (.cls ce.cls)).assignable ce.cls ce.cls = true) :
    wp (findHandler.go f x [en]) Q E e d acts u ↔ Q (.found en.handlerPc) d acts (u.setVm (u.vm.noted f.method.cls en.catchType (.cls ce.cls))) := by
  simp only [covers] at hx
  obtain ⟨ha, ht⟩ := (resolveClass_links e.toSetting hl).op (op := VmOp.resolveClass f.method.cls en.catchType) rfl
  simp [findHandler.go, hx, h0, ha, ht, hce, hn, hk, hfit, VmOp.dirties, VmOp.acts]
theorem x_catch (X : Stand p l e R s m args below meth c T locs cells slots) (x : Addr) {f : JFrame} (hf : f.method = m) {own : String} (hown : s.vm.findClass own = some m.cls) {en : ExceptionTableEntry} (hen : c.exceptionTable.toList = [en]) (hx : covers en f.pc = true) (h0 : en.catchType ≠ 0) (hlink : (Cond.classLink own en.catchType AX).before args s = true) (hE : xEx s T.heap x) (hca : (Cond.castable AX AX).before args s = true) :
    ∃ vm', Stand p l e R s m args below meth c (T.setVm vm') locs cells slots ∧ ∀ target, Steps p.tables e below ((T.setVm vm').setTop { f with pc := en.handlerPc, stack := [.ref x] }) target → Steps p.tables e below ((T.setTop f).pushFrame (.throwing x)) target := by
  obtain ⟨cT, hcT, hcl⟩ := Cond.classLink_spec hown hlink e.platform (by rw [X.admits.platform])
  obtain ⟨ce, hce, hnone, hcls⟩ := hE
  obtain ⟨c3, c4, hc3, hc4, hasg⟩ := Cond.castable_spec hca
  cases Option.some.inj (hc3.symm.trans hcls)
  cases Option.some.inj (hc4.symm.trans hcls)
  have hcc : cT = ce.cls := Option.some.inj (hcT.symm.trans hcls)
  rw [hcc] at hcl
  obtain ⟨dk, _, _, kt, hd, _, _, _, _, hkt, _, hopen⟩ := hcl.here
  have hcl₀ := X.warmed.classLinks hcl
  have hal := X.warmed.alike
  obtain ⟨kt', hkt', -⟩ := hal.2.2 _ _ hkt
  have hW' := X.warmed.noted hd hopen (State.rightAt_cls hcl)
  refine ⟨_, X.noted hW', fun target hrest => ?_⟩
  subst hf
  have uvm : ((T.setTop f).pushFrame (.throwing x)).vm = T.vm := by simp [State.pushFrame, State.setFrames, State.setTop, State.modifyTopJava]
  have uhp : ((T.setTop f).pushFrame (.throwing x)).heap = T.heap := by simp [State.pushFrame, State.setFrames, State.setTop, State.modifyTopJava]
  have hnal : T.vm.Alike (T.vm.noted f.method.cls en.catchType (.cls ce.cls)) := (Vm.Alike.refl T.vm).noted _ _ _
  have hasT : (T.vm.noted f.method.cls en.catchType (.cls ce.cls)).assignable ce.cls ce.cls = true := by rw [hnal.assignable, hal.assignable]; exact hasg
  obtain ⟨kn, hkn, -⟩ := hnal.2.2 _ _ hkt'
  have hfind : ∀ (Q : Handler → Pre) (E : CtlPost) (d : Bool) (acts : List Action), wp (findHandler f x) Q E e d acts ((T.setTop f).pushFrame (.throwing x)) ↔ Q (.found en.handlerPc) d acts (((T.setTop f).pushFrame (.throwing x)).setVm (T.vm.noted f.method.cls en.catchType (.cls ce.cls))) := by
    intro Q E d acts
    rw [W.findHandler_eq (meth := meth) (code := c) (by rw [uvm]; exact X.method') X.code, hen]
    have := x_go (e := e) (u := (T.setTop f).pushFrame (.throwing x)) (Q := Q) (E := E) (d := d) (acts := acts) hx h0 (ce := ce) (k := kn) (by rw [uvm]; exact hcl₀) (by rw [uhp]; exact hce) (fun k z => by rw [hnone] at z; cases z) (by rw [uvm]; exact hkn) (by rw [uvm]; exact hasT)
    rw [uvm] at this
    exact this
  obtain ⟨hgo, hw⟩ := X.here.throwing x
  refine Steps.head hgo hw ?_
  have hstep : (stepThrowing e ((T.setTop f).pushFrame (.throwing x)) x (.java f :: T.frames.tail)).Is ((((T.setTop f).pushFrame (.throwing x)).setVm (T.vm.noted f.method.cls en.catchType (.cls ce.cls))).setFrames (.java { f with pc := en.handlerPc, stack := [.ref x] } :: T.frames.tail)) [] := by
    simp only [stepThrowing, searchFrame, vmDo]
    generalize hr : Sem.go _ e false [] ((T.setTop f).pushFrame (.throwing x)) = res
    obtain ⟨as, rfl, ha2⟩ := Sem.eq_ok_of hr (a := Handler.found en.handlerPc) (s' := ((T.setTop f).pushFrame (.throwing x)).setVm (T.vm.noted f.method.cls en.catchType (.cls ce.cls))) (acts' := []) (by simp [hfind _ _ _ _])
    exact ⟨rfl, ha2⟩
  rw [stepThread_throwing (frames_entered X.here.top _), hstep.1]
  obtain ⟨g₀, hg⟩ := Option.isSome_iff_exists.mp X.here.top
  obtain ⟨r, hr⟩ := State.topJava?_eq_some.mp hg
  have hr' : (T.setVm (T.vm.noted f.method.cls en.catchType (.cls ce.cls))).frames = .java g₀ :: r := hr
  rw [State.setTop_of_frames _ hr'] at hrest
  have e1 : ((((T.setTop f).pushFrame (.throwing x)).setVm (T.vm.noted f.method.cls en.catchType (.cls ce.cls))).setFrames (.java { f with pc := en.handlerPc, stack := [.ref x] } :: T.frames.tail)) = (T.setVm (T.vm.noted f.method.cls en.catchType (.cls ce.cls))).setFrames (.java { f with pc := en.handlerPc, stack := [.ref x] } :: r) := by
    rw [hr, List.tail_cons, State.pushFrame, State.setTop_of_frames _ hr]
    show (((T.setVm (T.vm.noted f.method.cls en.catchType (.cls ce.cls))).setFrames _).setFrames _).setFrames _ = _
    rw [State.setFrames_setFrames, State.setFrames_setFrames]
  rw [e1]
  exact hrest
end CAU
