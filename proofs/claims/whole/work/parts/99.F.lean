/-! the law's methods that catch -/
abbrev xcodeW (M : xM) (hh : List (Nat × Nat × Nat × Nat)) : Cond := .codeWith (xm_y M) (xm_c M) (xm_n M) (xm_t M) hh
abbrev KH (g : xG) (hh : List (Nat × Nat × Nat × Nat)) : xK := fun s _ c => c.exceptionTable.toList.map (fun h => (h.startPc, h.endPc, h.handlerPc, h.catchType)) = hh ∧ xX g s s.heap
def CtW (g : xG) (M : xM) (hh : List (Nat × Nat × Nat × Nat)) (args : List Value) (h : xHp) (nx : Nat) (post : xPost) : Prop :=
  Met (gL g) (xm_y M) (xcodeW M hh :: lw_gd) (xm_r M) (va_Pc args (xWX g h nx)) (xQ g post) (xm_r M).cells (xm_r M).slots (xA g)
theorem CtW.of {g : xG} {M : xM} {hh : List (Nat × Nat × Nat × Nat)} {args : List Value} {h : xHp} {nx : Nat} {post : xPost} (hy : plainName (xm_y M).cls = true) (hl : (lg_sl args).length ≤ xm_n M) (k : BlkY g M (KH g hh) (ZR g M post) 0 (lv_args 0 args) [] h nx 0 0) : CtW g M hh args h nx post := by
  refine va_MetW (cc := xm_c M) (maxL := xm_n M) (ret := xm_t M) (hh := hh) (ws' := lw_gd) hy rfl ?_
  intro p e s m args' below meth c s₁ B hml hv
  obtain ⟨rfl, ⟨hH, hF, hB⟩, hX⟩ := hv
  have hts := atoms_spec (ws := xcodeW M hh :: lw_gd) B.pre
  have hown : s.vm.findClass (xm_y M).cls = some m.cls := findClass_of_methodNamed B.named
  obtain ⟨m9, meth9, c9, hn9, hm9, hc9, -, -, hh9, -⟩ := Cond.codeWith_spec (hts _ List.mem_cons_self)
  cases B.named.symm.trans hn9
  cases B.method.symm.trans hm9
  cases (Stand.of_body B).code.symm.trans hc9
  rw [lg_entry_eq]
  exact k p e s m _ below meth c ⟨B.exec, B.bytes, hml, B.returns, B.notSynchronized, (name_of_methodNamed B.named B.method).1, hown, fun w hw => hts w (List.mem_cons_of_mem _ hw), hF, hB⟩ ⟨hh9, hX⟩ s.heap [] _ hH va_S.rf (lv_entry args (n := xm_n M) hl)
section CW
variable {g : xG} {M : xM} {K : xK} {Z : xZ} {pc : Nat} {L : List (Nat × Value)} {st : List Value} {h : xHp} {nx cu su : Nat}
theorem y_callVC {M2 : xM} {a ci idx n b0 b1 b2 b3 : Nat} {As st0 : List Value} {fs : List Value} {T : u_T} {N : Nat} (hc : vwCl[ci]? = some ((xm_y M2).cls, T, N)) (hw : ∀ w ∈ [Cond.methodLink (xm_y M).cls idx (xm_y M2), .instanceMethod (xm_y M2), .selects (xm_y M2).cls (xm_y M2) (xm_y M2), .initialized (xm_y M2).cls, xcode M2], w ∈ lw_gd) (hh : xhand M2 n) (hR : xroom M M2) (hn : As.length = n) (hst : st0 = As.reverse ++ .ref a :: st) (h8 : (st.map fun v => v.category).sum ≤ 8) (hd : decode (xm_c M) pc = .ok (.invokevirtual idx, 3)) (ha : h a = some (xo ci fs)) (hcu : cu + (xm_r M2).cells ≤ (xm_r M).cells) (hsu : su + (xm_r M2).slots ≤ (xm_r M).slots) (hcov : b0 ≤ pc ∧ pc < b1) (h0 : b3 ≠ 0) (hlk : Cond.classLink (xm_y M).cls b3 AX ∈ lw_gd) (k : CtT g M2 (.ref a :: As) h nx)
    (kk : ∀ x : Nat, BlkY g M (KH g [(b0, b1, b2, b3)]) Z b2 L [.ref x] h (nx + 1) (cu + (xm_r M2).cells) (su + (xm_r M2).slots)) : BlkY g M (KH g [(b0, b1, b2, b3)]) Z pc L st0 h nx cu su := by
  intro p e s m args below meth c C hK H locs ls hH hS hL U hU X
  subst hst
  obtain ⟨x, U', Lc, X', e1, e2, e3, stp⟩ := x_thrown hc hw hh hR hn h8 hd ha hcu hsu k C hK.2 hH hS hL hU X
  obtain ⟨en, hen, hf⟩ : ∃ en, c.exceptionTable.toList = [en] ∧ (en.startPc, en.endPc, en.handlerPc, en.catchType) = (b0, b1, b2, b3) := by
    have := hK.1
    cases hq : c.exceptionTable.toList with
    | nil => rw [hq] at this; simp at this
    | cons y ys =>
      rw [hq] at this
      cases ys with
      | nil => exact ⟨y, rfl, (List.cons.inj this).1⟩
      | cons z zs => simp at this
  obtain ⟨f0, f1, f2, f3⟩ : en.startPc = b0 ∧ en.endPc = b1 ∧ en.handlerPc = b2 ∧ en.catchType = b3 := by
    simp only [Prod.mk.injEq] at hf
    exact hf
  obtain ⟨vm', X2, stp2⟩ := x_catch X' x (f := F0 m pc ls st) rfl C.own hen (by simp only [covers]; rw [f0, f1]; simp [hcov.1, hcov.2]) (by rw [f3]; exact h0) (by rw [f3]; exact C.W _ hlk) e3 (hK.2.now args _ (by simp [xXs]))
  rw [f2] at stp2
  obtain ⟨t, a1, b1'⟩ := kk x p e s m args below meth c C hK U'.heap (locs ++ Lc) ls e1 e2 hL (U'.setVm vm') rfl X2
  exact ⟨t, stp.trans (stp2 t a1), b1'⟩
theorem y_callSW {M2 : xM} {hh : List (Nat × Nat × Nat × Nat)} {idx n : Nat} {As st0 : List Value} (hKX : ∀ s args c, K s args c → xX g s s.heap) (hw : ∀ w ∈ [Cond.methodLink (xm_y M).cls idx (xm_y M2), .static (xm_y M2), .initialized (xm_y M2).cls, xcodeW M2 hh], w ∈ lw_gd) (hx : xhand M2 n) (hR : xroom M M2) (hn : As.length = n) (hst : st0 = As.reverse ++ st) (h8 : (st.map fun v => v.category).sum ≤ 8) (hd : decode (xm_c M) pc = .ok (.invokestatic idx, 3)) (hcu : cu + (xm_r M2).cells ≤ (xm_r M).cells) (hsu : su + (xm_r M2).slots ≤ (xm_r M).slots)
    (k : CtW g M2 hh As h nx (fun r h' nx' => BlkY g M K Z (pc + 3) L (r.toList ++ st) h' nx' (cu + (xm_r M2).cells) (su + (xm_r M2).slots))) : BlkY g M K Z pc L st0 h nx cu su := by
  intro p e s m args below meth c C hK H locs ls hH hS hL U hU X
  subst hst
  have hG : GoodIn lw_gd (xcodeW M2 hh :: lw_gd) := lw_gd_good fun w hq => by
    rcases List.mem_cons.mp hq with q | q
    · subst q; exact hw _ (by simp)
    · exact q
  have hlk := C.W _ (hw (Cond.methodLink (xm_y M).cls idx (xm_y M2)) (by simp))
  have hst := C.W _ (hw (Cond.static (xm_y M2)) (by simp))
  have hin := C.W _ (hw (Cond.initialized (xm_y M2).cls) (by simp))
  have hcd := C.W _ (hw (xcodeW M2 hh) (by simp))
  have hB : Back (gL g) (xm_r M) p e below s args (xm_y M2) 3 8 (PreOf (xm_r M) (xm_r M2).cells (xm_r M2).slots (va_Pc As (xWX g h nx))) (PostOf (xQ g _) (xm_r M2).cells (xm_r M2).slots (xA g)) :=
    va_backW (hh := hh) (bytes := xm_c M2) (maxL := xm_n M2) (ret := xm_t M2) k xWX_blind rfl rfl hR.1 hR.2 (pay_in C.W hG) List.mem_cons_self (fun a' V hW => word_at hW (Or.inl (by first | rfl | simp [Cond.onTables, Cond.keeps, Cond.steady])) hin)
  obtain ⟨mk, methM, cM, hnamed, hmethM, -, -, -, -, -, -, hsigM⟩ := Cond.codeWith_spec hcd
  have hstatic : methM.isStatic = true := Cond.static_spec hnamed hmethM hst
  obtain ⟨kP, hkP, -⟩ := className_of_methodNamed hnamed
  have hinitP : kP.init = .initialized := Cond.initialized_spec (findClass_of_methodNamed hnamed) hkP hin
  have hlen : As.length = methM.sig.parameters.length := by
    have h2 := hx.2.2
    rw [hsigM] at h2
    exact hn.trans (Option.some.inj h2).symm
  have hdg : decode c.code (F0 m pc ls (As.reverse ++ st)).pc = .ok (.invokestatic idx, 3) := by rw [C.2.1]; exact hd
  obtain ⟨vm₁, X₁, hstep₁⟩ := X.invokestatic C.1 C.own hlk hnamed hmethM hstatic hkP hinitP ⟨hx.1, hx.2.1⟩ (g := F0 m pc ls (As.reverse ++ st)) rfl (argsL := As) (rest := st) hlen rfl hdg
  obtain ⟨v, ⟨U', l2, c2, s2⟩, X', ⟨g', mk', t, Lc, e1, e2, ⟨⟨r, h', nx', hv, hp, hh2⟩, hz, hk⟩, h1, hLc, h2, h3⟩, hsteps⟩ := hB m meth c ⟨U.setVm vm₁, locs, cu, su⟩ (F0 m pc ls st) (.invokestatic idx) mk As.toArray X₁ rfl (by rw [C.2.2.1]; exact hL.1) hdg (by show 2 * 0 + (st.map fun v => v.category).sum ≤ 8; omega) (X₁.named hnamed) ⟨hcu, hsu, xWX_pre C (hKX _ _ _ hK) hH hS (U.setVm vm₁) hU X₁.warmed⟩
  dsimp only [Pt.U, Pt.locs, Pt.cells, Pt.slots] at X' e1 e2 h1 h2 h3 hsteps
  subst h1; subst h2; subst h3
  cases hv
  have hz2 : H.size ≤ t.heap.size := by rw [← hU]; exact hz
  have hk2 : ∀ q : Nat, q < H.size → ¬ xA g q → t.heap[q]? = H[q]? := by rw [← hU]; exact hk
  obtain ⟨t2, a1, b1⟩ := hp p e s m args below meth c C hK U'.heap (locs ++ Lc) ls (by rw [e1]; exact hh2)
    ⟨Nat.le_trans hS.1 (by rw [e1]; exact hz2), fun q z1 z2 => by rw [e1, hk2 q (Nat.lt_of_lt_of_le z1 hS.1) z2]; exact hS.2.1 q z1 z2, fun q hq => by
      rcases List.mem_append.mp hq with z | z
      · exact hS.2.2 q z
      · exact hLc q z⟩ hL U' rfl X'
  exact ⟨t2, hstep₁ _ (fun acts => by rw [doInvoke_state]; exact hsteps.trans a1), b1⟩
theorem y_iret {post : xPost} {v : Int32} (hd : decode (xm_c M) pc = .ok (.ireturn, 1)) (hr : xm_t M = some .int) (h1 : cu ≤ (xm_r M).cells) (h2 : su ≤ (xm_r M).slots) (hp : post (some (.int v)) h nx) : BlkY g M K (ZR g M post) pc L [.int v] h nx cu su := BlkY.ofBlk (r_iret hd hr h1 h2 hp)
end CW
