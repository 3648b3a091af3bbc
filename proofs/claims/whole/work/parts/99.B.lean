/-! what a throw asks of the tables and statics -/
abbrev AX : String := "java/lang/ArrayIndexOutOfBoundsException"
abbrev axN : List String := ["java/lang/IndexOutOfBoundsException", "java/lang/RuntimeException", "java/lang/Exception"]
def xXs : List Cond := [.isRef (.static "java/lang/Throwable" "UNASSIGNED_STACK" "[Ljava/lang/StackTraceElement;"), .isRef (.static "java/lang/Throwable" "SUPPRESSED_SENTINEL" "Ljava/util/List;"), .laysStatic "java/lang/Throwable" "UNASSIGNED_STACK" "[Ljava/lang/StackTraceElement;", .laysStatic "java/lang/Throwable" "SUPPRESSED_SENTINEL" "Ljava/util/List;", .declares ⟨"java/lang/IndexOutOfBoundsException", "<init>", "(Ljava/lang/String;)V"⟩, .declares ⟨"java/lang/RuntimeException", "<init>", "(Ljava/lang/String;)V"⟩, .declares ⟨"java/lang/Exception", "<init>", "(Ljava/lang/String;)V"⟩, .declares ⟨"java/lang/Throwable", "<init>", "(Ljava/lang/String;)V"⟩, .castable AX AX]
set_option maxRecDepth 20000 in
theorem own_in : ∀ a ∈ Jvm.Bundle.ownAtoms "StateShares" 206 AX axN, a ∈ lw_gd ∨ a ∈ xXs := by decide +kernel
def xX (g : xG) (U : State) (H : Heap) : Prop := ∀ (V : State) (args : Array Value), U.vm.Alike V.vm → (∀ q : Nat, q < H.size → ¬ xA g q → V.heap[q]? = H[q]?) → ∀ w ∈ xXs, w.before args V = true
theorem xX.kept {g : xG} {U U' : State} {H H' : Heap} (h : xX g U H) (hA : U.vm.Alike U'.vm) (hz : H.size ≤ H'.size) (hq : ∀ q : Nat, q < H.size → ¬ xA g q → H'[q]? = H[q]?) : xX g U' H' :=
  fun V args a b => h V args (hA.trans a) (fun q q1 q2 => (b q (Nat.lt_of_lt_of_le q1 hz) q2).trans (hq q q1 q2))
theorem xX.now {g : xG} {U : State} (h : xX g U U.heap) (args : Array Value) : ∀ w ∈ xXs, w.before args U = true := h U args (Vm.Alike.refl U.vm) (fun _ _ _ => rfl)
theorem xX_static {s V : State} {args args' : Array Value} {C n d : String} (hA : s.vm.Alike V.vm) (hq : ∀ q : Nat, q < s.heap.size → V.heap[q]? = s.heap[q]?) (hl : (Cond.laysStatic C n d).before args s = true) (hr : (Cond.isRef (.static C n d)).before args s = true) : (Cond.laysStatic C n d).before args' V = true ∧ (Cond.isRef (.static C n d)).before args' V = true := by
  obtain ⟨c, k, i, f, a, cell, hc, hi, hst, ha, hcell, hs, hcls, hlt, hty⟩ := Cond.laysStatic_spec hl
  obtain ⟨k', hi', hek⟩ := State.fieldFound?_setVm hA hi
  have hi2 : V.fieldFound? C n d = some (c, k', i, f) := hi'
  have hcell2 : V.heap[a]? = some cell := (hq a (Array.getElem?_eq_some_iff.mp hcell).1).trans hcell
  have ha2 : k'.statics = some a := by rw [hek]; exact ha
  refine ⟨Cond.laysStatic_of (by rw [hA.findClass]; exact hc) hi2 hst ha2 hcell2 hs hcls hlt (by rw [hek]; exact hty), ?_⟩
  obtain ⟨v, hv, hvr⟩ := Cond.isRef_spec hr
  obtain ⟨-, a', cell', ha', hcell', -, hslot⟩ := Term.static_spec hi hv
  cases ha.symm.trans ha'
  cases hcell.symm.trans hcell'
  have hv2 := Term.static_eval (args := args') (first := V) (o := none) (idx := []) hi2 hst ha2 hcell2 hs hslot
  simp only [Cond.before, Cond.holds, Cond.value, hv2]
  cases v with
  | null => rfl
  | ref t => rfl
  | _ => cases hvr
theorem xX.start {g : xG} {s : State} {args : Array Value} (hA : ∀ q : Nat, q < s.heap.size → ¬ xA g q) (h : ∀ w ∈ xXs, w.before args s = true) : xX g s s.heap := by
  intro V args' hV hq
  have hq' : ∀ q : Nat, q < s.heap.size → V.heap[q]? = s.heap[q]? := fun q z => hq q z (hA q z)
  have t1 := xX_static (args' := args') hV hq' (h (.laysStatic "java/lang/Throwable" "UNASSIGNED_STACK" "[Ljava/lang/StackTraceElement;") (by simp [xXs])) (h (.isRef (.static "java/lang/Throwable" "UNASSIGNED_STACK" "[Ljava/lang/StackTraceElement;")) (by simp [xXs]))
  have t2 := xX_static (args' := args') hV hq' (h (.laysStatic "java/lang/Throwable" "SUPPRESSED_SENTINEL" "Ljava/util/List;") (by simp [xXs])) (h (.isRef (.static "java/lang/Throwable" "SUPPRESSED_SENTINEL" "Ljava/util/List;")) (by simp [xXs]))
  have td : ∀ x : MethodName, (Cond.declares x).before args s = true → (Cond.declares x).before args' V = true := fun x hx => by
    have := Cond.declares_setVm (args := args) hV x
    rw [hx] at this
    exact this
  have tc : (Cond.castable AX AX).before args' V = true := by
    have := Cond.castable_setVm (args := args) hV AX AX
    rw [h (.castable AX AX) (by simp [xXs])] at this
    exact this
  intro w hw
  unfold xXs at hw
  simp only [List.mem_cons, List.not_mem_nil, or_false] at hw
  rcases hw with rfl | rfl | rfl | rfl | rfl | rfl | rfl | rfl | rfl
  · exact t1.2
  · exact t2.2
  · exact t1.1
  · exact t2.1
  · exact td _ (h _ (by simp [xXs]))
  · exact td _ (h _ (by simp [xXs]))
  · exact td _ (h _ (by simp [xXs]))
  · exact td _ (h _ (by simp [xXs]))
  · exact tc
