def R_law : String := "StateSharesLaw"
def lw_P (b : Addr) (xs : List Int32) (args : Array Value) (s : State) : Prop := args = #[.ref b] ∧ s.IntsAt b xs ∧ xs.length ≤ 4097 ∧ (Jvm.Cond.and given_1 narrow_1).before args s = true
def lw_Q (_ : Array Value) (s : State) (o : Outcome) (t : State) : Prop := o = .returned (some (.int 1)) ∧ Framed s o t [] 601024 7293000
def lw_Z (below : List Frame) (a : Array Value) (s : State) : State → Prop := fun t => ∃ o, t.status = .running ∧ Ended t below o ∧ lw_Q a s o t
/-- the law's own end, with 1 on the stack, nothing written that was there before, its room as the claim has it -/
theorem lw_ret {p : Program} {l : Launch} {e : Env} {s : State} {m : MethodId} {below : List Frame} {meth : Method} {c : Code} {b : Nat} (hx : p.tables.exec = Jvm.exec) (hb : c.code = code) (hr : meth.sig.returnType = ret) (hlocks : meth.locks = false) {pc : Nat} {H : Heap} {ls : Array Slot} (hdg : decode code pc = .ok (.ireturn, 1)) : W p l e room_1 s m #[Value.ref b] below meth c H [] 601024 7293000 (lw_Z below #[Value.ref b] s) (F0 m pc ls [.int 1]) := by
  intro T hT X
  obtain ⟨fs, hret, hrun, hended, hW, hframe⟩ := X.leave (v := some (.int 1)) (hlocks := hlocks) (fun h => by rw [hr] at h; cases h)
  have hmeth' : T.vm.method? m = some meth := X.method'
  refine ⟨T.setFrames fs, ?_, .returned (some (.int 1)), hrun, hended, rfl, ⟨_, rfl⟩, hW, hframe⟩
  jvm_step X.here [X.here.top, hx, hb, hdg, hmeth', hr, ret, narrow_b1]
  (try refine ⟨rfl, ?_⟩); (try refine ⟨rfl, ?_⟩)
  first | (intro acts; rw [hret _ acts rfl rfl rfl]) | rw [hret _ _ rfl rfl rfl]
  exact Steps.refl _
/-- what holds at the law's entry: the machine, the code, the tables' words (any of lw_tbl by 'hts w (by decide +kernel)'), the script of L ints xs at the cell b, what the Statement gives of the start (any of its parts by flat_of_before) -/
def lw_At (p : Program) (s : State) (m : MethodId) (meth : Method) (c : Code) (b L : Nat) (xs : Nat → Int32) : Prop :=
  p.tables.exec = Jvm.exec ∧ c.code = code ∧ meth.sig.returnType = ret ∧ c.maxLocals = 8 ∧ s.vm.findClass R_law = some m.cls ∧ (∀ w ∈ lw_tbl, w.before #[Value.ref b] s = true) ∧ va_X b L xs s s.heap ∧ b < s.heap.size ∧ meth.locks = false ∧ (Jvm.Cond.and given_1 narrow_1).before #[Value.ref b] s = true
/-! the script -/
def xS (g : xG) (b N : Nat) (xs : Nat → Int32) (U : State) (H : Heap) : Prop := va_X b N xs U H ∧ b < H.size ∧ ¬ xA g b
abbrev xWS (g : xG) (b N : Nat) (xs : Nat → Int32) (h : xHp) (nx : Nat) (U : State) : Prop := xW g h nx U ∧ xS g b N xs U U.heap
abbrev KS (g : xG) (b N : Nat) (xs : Nat → Int32) : xK := fun s _ _ => xS g b N xs s s.heap
abbrev KL (g : xG) (b N : Nat) (xs : Nat → Int32) : xK := fun s args _ => args = #[Value.ref b] ∧ xS g b N xs s s.heap ∧ xX g s s.heap ∧ gB g = s.heap.size
def CtS (g : xG) (M : xM) (b N : Nat) (xs : Nat → Int32) (args : List Value) (h : xHp) (nx : Nat) (post : xPost) : Prop :=
  Met (gL g) (xm_y M) (xcode M :: lw_gd) (xm_r M) (va_Pc args (xWS g b N xs h nx)) (xQ g post) (xm_r M).cells (xm_r M).slots (xA g)
theorem xWS_blind {g : xG} {b N : Nat} {xs : Nat → Int32} {h : xHp} {nx : Nat} {av : List Value} : FrameBlind (va_Pc av (xWS g b N xs h nx)) := by
  intro a U gf mk q
  obtain ⟨q0, q1, q2, q3⟩ := q
  exact ⟨q0, (xW_blind a U gf mk ⟨q0, q1⟩).2, va_X.moved (Vm.Alike.refl U.vm) q2, q3⟩
theorem CtS.of {g : xG} {M : xM} {b N : Nat} {xs : Nat → Int32} {args : List Value} {h : xHp} {nx : Nat} {post : xPost} (hy : plainName (xm_y M).cls = true) (hl : (lg_sl args).length ≤ xm_n M) (k : BlkY g M (KS g b N xs) (ZR g M post) 0 (lv_args 0 args) [] h nx 0 0) : CtS g M b N xs args h nx post := by
  refine Met.ofW (cc := xm_c M) (maxL := xm_n M) (ret := xm_t M) hy rfl ?_
  intro p e s m args' below meth c s₁ B hml hv
  obtain ⟨rfl, ⟨hH, hF, hB⟩, hX⟩ := hv
  have hts := atoms_spec (ws := xcode M :: lw_gd) B.pre
  have hown : s.vm.findClass (xm_y M).cls = some m.cls := findClass_of_methodNamed B.named
  rw [lg_entry_eq]
  exact k p e s m _ below meth c ⟨B.exec, B.bytes, hml, B.returns, B.notSynchronized, (name_of_methodNamed B.named B.method).1, hown, fun w hw => hts w (List.mem_cons_of_mem _ hw), hF, hB⟩ hX s.heap [] _ hH va_S.rf (lv_entry args (n := xm_n M) hl)
section SC
variable {g : xG} {M : xM} {K : xK} {Z : xZ} {pc : Nat} {L : List (Nat × Value)} {st : List Value} {h : xHp} {nx cu su : Nat} {b N : Nat} {xs : Nat → Int32}
theorem y_sld {j : Nat} {i : Int32} (hKS : ∀ s args c, K s args c → xS g b N xs s s.heap) (hd : decode (xm_c M) pc = .ok (.iaload, 1)) (hi : i = nI j) (hj : j < N) (hN : N < 2 ^ 31) (k : BlkY g M K Z (pc + 1) L (.int (xs j) :: st) h nx cu su) : BlkY g M K Z pc L (.int i :: .ref b :: st) h nx cu su :=
  fun p e s m args below meth c C hK H locs ls hH hS hL => va_sld C.1 C.2.1 (hKS _ _ _ hK).1 (hKS _ _ _ hK).2.1 (hKS _ _ _ hK).2.2 hS (xin hi hj hN).1 hd (by rw [(xin hi hj hN).2]; exact k p e s m args below meth c C hK H locs ls hH hS hL)
theorem y_slen (hKS : ∀ s args c, K s args c → xS g b N xs s s.heap) (hd : decode (xm_c M) pc = .ok (.arraylength, 1)) (k : BlkY g M K Z (pc + 1) L (.int (nI N) :: st) h nx cu su) : BlkY g M K Z pc L (.ref b :: st) h nx cu su :=
  fun p e s m args below meth c C hK H locs ls hH hS hL => va_slen C.1 C.2.1 (hKS _ _ _ hK).1 (hKS _ _ _ hK).2.1 (hKS _ _ _ hK).2.2 hS hd (k p e s m args below meth c C hK H locs ls hH hS hL)
theorem y_callSS {M2 : xM} {idx n : Nat} {As st0 : List Value} (hKS : ∀ s args c, K s args c → xS g b N xs s s.heap) (hw : ∀ w ∈ [Cond.methodLink (xm_y M).cls idx (xm_y M2), .static (xm_y M2), .initialized (xm_y M2).cls, xcode M2], w ∈ lw_gd) (hh : xhand M2 n) (hR : xroom M M2) (hn : As.length = n) (hst : st0 = As.reverse ++ st) (h8 : (st.map fun v => v.category).sum ≤ 8) (hd : decode (xm_c M) pc = .ok (.invokestatic idx, 3)) (hcu : cu + (xm_r M2).cells ≤ (xm_r M).cells) (hsu : su + (xm_r M2).slots ≤ (xm_r M).slots)
    (k : CtS g M2 b N xs As h nx (fun r h' nx' => BlkY g M K Z (pc + 3) L (r.toList ++ st) h' nx' (cu + (xm_r M2).cells) (su + (xm_r M2).slots))) : BlkY g M K Z pc L st0 h nx cu su := by
  intro p e s m args below meth c C hK H locs ls hH hS hL
  subst hst
  have hG : GoodIn lw_gd (va_wsS (xm_y M).cls idx (xm_y M2) (xcode M2 :: lw_gd)) := lw_gd_good fun w hq => by
    unfold va_wsS at hq
    rcases List.mem_append.mp hq with q | q
    · exact hw w (by simp at q ⊢; rcases q with q | q | q <;> simp [q])
    · rcases List.mem_cons.mp q with q | q
      · subst q; exact hw _ (by simp)
      · exact q
  refine xcall (L' := L) (va_runS (As := As) (rest := st) ⟨C.1, C.2.1, C.2.2.1, C.own, C.W⟩ k (va_cwS n C.W hG rfl rfl rfl hh hR) ⟨xWS_blind, fun U hU hW => ?_⟩ rfl hn hL.1 rfl (lv_room h8) hd ⟨hcu, hsu⟩) hS ?_
  · obtain ⟨q0, q1⟩ := xW_pre (av := As) C hH hS U hU hW
    obtain ⟨z1, z2, z3⟩ := hKS _ _ _ hK
    refine ⟨q0, q1, ?_, ?_, z3⟩
    · rw [hU]; exact (va_X.moved hW.alike z1).kept (hS.2.1 b z2 z3)
    · rw [hU]; exact Nat.lt_of_lt_of_le z2 hS.1
  · intro r h' nx' H1 locs1 hp hh1 hS1
    exact hp p e s m args below meth c C hK H1 locs1 ls hh1 hS1 hL
end SC
abbrev M_L_cell : xM := (yL_cell, cL_cell, 2, (some .int), { frames := 0, cells := 0, slots := 0, locals := 0 })
abbrev M_L_law : xM := (yL_law, cL_law, 8, (some .boolean), room_1)
theorem dL_cell_0 : decode cL_cell 0 = .ok (.iload_n 1, 1) := by decide +kernel
theorem dL_cell_1 : decode cL_cell 1 = .ok (.aload_n 0, 1) := by decide +kernel
theorem dL_cell_2 : decode cL_cell 2 = .ok (.arraylength, 1) := by decide +kernel
theorem dL_cell_3 : decode cL_cell 3 = .ok (.if_icmp .ge 9, 3) := by decide +kernel
theorem dL_cell_6 : decode cL_cell 6 = .ok (.aload_n 0, 1) := by decide +kernel
theorem dL_cell_7 : decode cL_cell 7 = .ok (.iload_n 1, 1) := by decide +kernel
theorem dL_cell_8 : decode cL_cell 8 = .ok (.iaload, 1) := by decide +kernel
theorem dL_cell_9 : decode cL_cell 9 = .ok (.goto 4, 3) := by decide +kernel
theorem dL_cell_12 : decode cL_cell 12 = .ok (.iconst 0, 1) := by decide +kernel
theorem dL_cell_13 : decode cL_cell 13 = .ok (.ireturn, 1) := by decide +kernel
theorem c_cell {g : xG} {post : xPost} {h : xHp} {nx b N : Nat} {xs : Nat → Int32} (hN : N < 2 ^ 31) (hp : post (some (.int (if N ≤ 0 then nI 0 else xs 0))) h nx) : CtS g M_L_cell b N xs [.ref b, .int (nI 0)] h nx post := by
  refine CtS.of (by decide +kernel) (Nat.le_of_ble_eq_true rfl) ?_
  show BlkY g M_L_cell (KS g b N xs) (ZR g M_L_cell post) 0 [(0, .ref b), (1, .int (nI 0))] [] h nx 0 0
  refine y_iload_n 1 dL_cell_0 rfl rfl ?_
  refine y_aload_n 0 dL_cell_1 rfl rfl ?_
  refine y_slen (fun _ _ _ z => z) dL_cell_2 ?_
  refine y_icmp_geN (tgt := 12) dL_cell_3 (by decide) ⟨by decide, hN⟩ (fun c => ?_) (fun c => ?_)
  · refine y_iconst (v := (nI 0)) dL_cell_12 rfl ?_
    exact y_iret dL_cell_13 rfl (by decide) (by decide) (by rw [if_pos c] at hp; exact hp)
  · refine y_aload_n 0 dL_cell_6 rfl rfl ?_
    refine y_iload_n 1 dL_cell_7 rfl rfl ?_
    refine y_sld (fun _ _ _ z => z) dL_cell_8 rfl (by omega) hN ?_
    refine y_goto (tgt := 13) dL_cell_9 (by decide) ?_
    exact y_iret dL_cell_13 rfl (by decide) (by decide) (by rw [if_neg (by omega)] at hp; exact hp)
theorem y_law_end {g : xG} {h : xHp} {nx cu su b N : Nat} {xs : Nat → Int32} {L : List (Nat × Value)} (h1 : cu ≤ 601024) (h2 : su ≤ 7293000) : BlkY g M_L_law (KL g b N xs) lw_Z 1511 L [] h nx cu su := by
  refine y_iconst (n := 1) (v := 1) (by decide +kernel) rfl ?_
  intro p e s m args below meth c C hK H locs ls hH hS hL U hU X
  obtain ⟨rfl, -, -, hB⟩ := hK
  have X2 : Stand p (gL g) e room_1 s m #[Value.ref b] below meth c U [] 601024 7293000 := { X with same := (x_drop X.same (fun q hq => by rw [← hB]; exact hS.2.2 q hq)).mono h1 h2 }
  exact lw_ret C.1 C.2.1 C.2.2.2.1 C.2.2.2.2.1 (by decide +kernel) U hU X2
