/-! the heap as a function; a method's contract over it; what is at a place of a method's code -/
abbrev xE : Type := (Nat × vp_A) ⊕ (Nat × List Value)
abbrev xHp : Type := Nat → Option xE
/-- launch, numbers of the classes and slots, numbers of the array classes, the first address of ours, the row of primes, the texts, their bytes -/
abbrev xG : Type := Launch × va_G × (Nat → ClassId) × Nat × Nat × (Nat → Nat) × (Nat → Nat)
abbrev gL (g : xG) : Launch := g.1
abbrev gD (g : xG) : va_G := g.2.1
abbrev gK (g : xG) : Nat → ClassId := g.2.2.1
abbrev gB (g : xG) : Nat := g.2.2.2.1
abbrev gP (g : xG) : Nat := g.2.2.2.2.1
abbrev gS (g : xG) : Nat → Nat := g.2.2.2.2.2.1
abbrev gY (g : xG) : Nat → Nat := g.2.2.2.2.2.2
abbrev xA (g : xG) : Nat → Prop := fun q => gB g ≤ q
abbrev xtys (k : Nat → ClassId) : List (ClassId × FieldType) := [(k 0, .int), (k 1, .char), (k 2, .long), (k 3, .boolean), (k 4, .object RX0), (k 5, .object RX2), (k 6, .object RX5)]
def xe (g : xG) (e : xE) : va_E := match e with
  | .inl q => .inl (gK g q.1, q.2)
  | .inr o => .inr o
def xat (g : xG) (a : Nat) (e : xE) (H : Heap) : Prop := va_at (gD g) vwCl (a, xe g e) H
def xH (g : xG) (h : xHp) (nx : Nat) (H : Heap) : Prop := H.size = nx ∧ ∀ (a : Nat) (e : xE), h a = some e → gB g ≤ a ∧ xat g a e H
def xup (h : xHp) (a : Nat) (e : xE) : xHp := fun b => if b = a then some e else h b
theorem xup_s (h : xHp) (a : Nat) (e : xE) : xup h a e a = some e := if_pos rfl
theorem xup_n {h : xHp} {a b : Nat} {e : xE} (n : b ≠ a) : xup h a e b = h b := if_neg n
theorem xup_up (h : xHp) (a : Nat) (e e2 : xE) : xup (xup h a e) a e2 = xup h a e2 := by
  funext b
  unfold xup
  by_cases q : b = a
  · rw [if_pos q, if_pos q]
  · rw [if_neg q, if_neg q, if_neg q]
theorem xup_id {h : xHp} {a : Nat} {e : xE} (q : h a = some e) : xup h a e = h := by
  funext b
  unfold xup
  by_cases p : b = a
  · rw [if_pos p, p]; exact q.symm
  · rw [if_neg p]
abbrev xia (N : Nat) (f : Nat → Int32) : xE := .inl (0, N, .inl f)
abbrev xca (N : Nat) (f : Nat → Int32) : xE := .inl (1, N, .inl f)
abbrev xla (N : Nat) (f : Nat → Int64) : xE := .inl (2, N, .inr (.inl f))
abbrev xza (N : Nat) (f : Nat → Int32) : xE := .inl (3, N, .inl f)
abbrev xra (k N : Nat) (f : Nat → Option Nat) : xE := .inl (k, N, .inr (.inr (.inr (.inr f))))
abbrev xo (ci : Nat) (fs : List Value) : xE := .inr (ci, fs)
theorem xH.lt {g : xG} {h : xHp} {nx a : Nat} {e : xE} {H : Heap} (q : xH g h nx H) (ha : h a = some e) : a < nx := by
  have := (q.2 a e ha).2.lt
  rw [q.1] at this
  exact this
theorem xH.set {g : xG} {h : xHp} {nx a : Nat} {e : xE} {H H1 : Heap} (q : xH g h nx H) (hb : gB g ≤ a) (z : H1.size = H.size) (oq : ∀ b : Nat, b ≠ a → H1[b]? = H[b]?) (he : xat g a e H1) : xH g (xup h a e) nx H1 := by
  refine ⟨z.trans q.1, fun b e2 hb2 => ?_⟩
  by_cases p : b = a
  · subst p
    rw [xup_s] at hb2
    cases hb2
    exact ⟨hb, he⟩
  · rw [xup_n p] at hb2
    exact ⟨(q.2 b e2 hb2).1, (q.2 b e2 hb2).2.kept (oq b p)⟩
theorem xH.push {g : xG} {h : xHp} {nx : Nat} {e : xE} {H H1 : Heap} (q : xH g h nx H) (hb : gB g ≤ nx) (z : H1.size = nx + 1) (oq : ∀ b : Nat, b < nx → H1[b]? = H[b]?) (he : xat g nx e H1) : xH g (xup h nx e) (nx + 1) H1 := by
  refine ⟨z, fun b e2 hb2 => ?_⟩
  by_cases p : b = nx
  · subst p
    rw [xup_s] at hb2
    cases hb2
    exact ⟨hb, he⟩
  · rw [xup_n p] at hb2
    exact ⟨(q.2 b e2 hb2).1, (q.2 b e2 hb2).2.kept (oq b (q.lt hb2))⟩
/-- the cells as the kit's list -/
def xl (g : xG) (h : xHp) (nx : Nat) : va_W := (List.range nx).filterMap fun a => (h a).map fun e => (a, xe g e)
theorem xl_mem {g : xG} {h : xHp} {nx : Nat} {q : Nat × va_E} (m : q ∈ xl g h nx) : ∃ e, h q.1 = some e ∧ q.2 = xe g e ∧ q.1 < nx := by
  obtain ⟨a, ha, hq⟩ := List.mem_filterMap.mp m
  cases hh : h a with
  | none => rw [hh] at hq; cases hq
  | some e =>
    rw [hh] at hq
    cases hq
    exact ⟨e, hh, rfl, List.mem_range.mp ha⟩
theorem xl_in {g : xG} {h : xHp} {nx a : Nat} {e : xE} (ha : h a = some e) (hl : a < nx) : ∃ k : Nat, (xl g h nx)[k]? = some (a, xe g e) :=
  List.getElem?_of_mem (List.mem_filterMap.mpr ⟨a, List.mem_range.mpr hl, by rw [ha]; rfl⟩)
theorem xl_P {g : xG} {h : xHp} {nx : Nat} {H : Heap} (q : xH g h nx H) : va_P (gD g) vwCl (xl g h nx) H := by
  intro k p hp
  obtain ⟨e, h1, h2, -⟩ := xl_mem (List.mem_of_getElem? hp)
  have := (q.2 _ _ h1).2
  unfold xat at this
  rw [← h2] at this
  exact this
theorem xl_inj {g : xG} {h : xHp} {nx : Nat} {i j : Nat} {p q : Nat × va_E} (hi : (xl g h nx)[i]? = some p) (hj : (xl g h nx)[j]? = some q) (e : p.1 = q.1) : i = j := by
  have nd : ((xl g h nx).map (·.1)).Nodup := by
    have h1 : (xl g h nx).map (·.1) = (List.range nx).filterMap fun a => (h a).map fun _ => a := by
      unfold xl
      rw [List.map_filterMap]
      congr 1
      funext a
      cases h a <;> rfl
    rw [h1]
    have h2 : (List.range nx).filterMap (fun a => (h a).map fun _ => a) = (List.range nx).filter fun a => (h a).isSome := by
      generalize List.range nx = l
      induction l with
      | nil => rfl
      | cons b l ih =>
        cases hb : h b with
        | none => rw [List.filterMap_cons, List.filter_cons, hb]; simpa using ih
        | some v => rw [List.filterMap_cons, List.filter_cons, hb]; simpa using ih
    rw [h2]
    exact List.Nodup.sublist List.filter_sublist List.nodup_range
  have a1 : ((xl g h nx).map (·.1))[i]? = some p.1 := by rw [List.getElem?_map, hi]; rfl
  have a2 : ((xl g h nx).map (·.1))[j]? = some p.1 := by rw [List.getElem?_map, hj, e]; rfl
  have li := (List.getElem?_eq_some_iff.mp a1).1
  exact (List.getElem?_inj li nd).mp (a1.trans a2.symm)
theorem xl_D {g : xG} {h : xHp} {nx : Nat} {H : Heap} (q : xH g h nx H) : va_D (xA g) (xl g h nx) := by
  refine ⟨fun i j p r hi hj e => xl_inj hi hj e, fun k p hp => ?_⟩
  obtain ⟨e, h1, -, -⟩ := xl_mem (List.mem_of_getElem? hp)
  exact (q.2 _ _ h1).1
/-- back from the kit's list, one cell stored -/
theorem xl_back {g : xG} {h : xHp} {nx a k : Nat} {e0 e : xE} {H H1 : Heap} (q : xH g h nx H) (ha : h a = some e0) (hk : (xl g h nx)[k]? = some (a, xe g e0)) (z : H1.size = nx) (hP : va_P (gD g) vwCl ((xl g h nx).set k (a, xe g e)) H1) : xH g (xup h a e) nx H1 := by
  refine ⟨z, fun b e2 hb => ?_⟩
  have lk := (List.getElem?_eq_some_iff.mp hk).1
  by_cases p : b = a
  · subst p
    rw [xup_s] at hb
    cases hb
    exact ⟨(q.2 _ _ ha).1, hP k (b, xe g e) (List.getElem?_set_self lk)⟩
  · rw [xup_n p] at hb
    refine ⟨(q.2 _ _ hb).1, ?_⟩
    obtain ⟨j, hj⟩ := xl_in (g := g) hb (q.lt hb)
    have hjk : k ≠ j := fun e3 => by
      subst e3
      rw [hk] at hj
      exact p (Prod.mk.inj (Option.some.inj hj)).1.symm
    exact hP j (b, xe g e2) (by rw [List.getElem?_set_ne hjk]; exact hj)
/-! what the tables and statics say -/
def xLen : List Nat := [1, 1, 3, 1, 1, 1, 3, 3, 1, 1, 13]
def xByt : List (List Int32) := [[110], [35], [109, 97, 120], [60], [61], [62], [109, 105, 110], [109, 105, 100], [58], [59], [110, 111, 32, 115, 117, 99, 104, 32, 115, 116, 97, 116, 101]]
def xPr : List Nat := [2, 3, 5, 7, 11, 13, 17, 19, 23, 29, 31, 37, 41, 43, 47, 53, 59, 61, 67, 71, 73, 79, 83, 89, 97, 101, 103, 107, 109, 113, 127, 131, 137, 139, 149, 151, 157, 163, 167, 173, 179, 181, 191, 193, 197, 199, 211, 223, 227, 229, 233, 239, 241, 251, 257, 263, 269, 271, 277, 281, 283, 293, 307, 311, 313, 317, 331, 337, 347, 349, 353, 359, 367, 373, 379, 383, 389, 397, 401, 409, 419, 421, 431, 433, 439, 443, 449, 457, 461, 463, 467, 479, 487, 491, 499, 503, 509, 521, 523, 541, 547, 557, 563, 569, 571, 577, 587, 593, 599, 601, 607, 613, 617, 619, 631, 641, 643, 647, 653, 659, 661, 673, 677, 683, 691, 701, 709, 719, 727, 733, 739, 743, 751, 757, 761, 769, 773, 787, 797, 809, 811, 821, 823, 827, 829, 839, 853, 857, 859, 863, 877, 881, 883, 887, 907, 911, 919, 929, 937, 941, 947, 953, 967, 971, 977, 983, 991, 997]
def xpr (j : Nat) : Nat := xPr.getD j 2
def xSk : List (String × Nat × String) := [(RX7, 104, "n"), (RX7, 105, "#"), (RX7, 107, "max"), (RX7, 113, "<"), (RX7, 115, "="), (RX7, 117, ">"), (RX7, 109, "min"), (RX7, 111, "mid"), (RX7, 99, ":"), (RX7, 79, ";"), (RX9, 204, "no such state")]
/-- what holds of the tables -/
def xT (g : xG) (U : State) : Prop :=
  va_K (gD g) vwCl (xtys (gK g)) U ∧ (va_AO RX0 U ∧ va_AO RX2 U ∧ va_AO RX5 U) ∧
  (va_Nw (.fieldLinkNest RX5 22 "StateShares" "PRIMES" "[I" "StateShares") U ∧ va_Nw (.fieldLinkNest RX2 39 "StateShares" "PRIMES" "[I" "StateShares") U ∧ va_Nw (.methodLinkNest RX8 27 yX9_smallPart "StateShares") U ∧ va_Nw (.methodLinkNest RX5 58 yX9_commonDivisor "StateShares") U) ∧
  ∀ (i : Nat) (q : String × Nat × String), xSk[i]? = some q → vk_R q.1 q.2.1 q.2.2 (gS g i) U
/-- what lies below our addresses -/
def xU (g : xG) (U : State) (H : Heap) : Prop :=
  (va_Z "StateShares" "PRIMES" "[I" (.ref (gP g)) (xA g) U H ∧ va_T .int (gP g) 168 (fun j => .int (nI (xpr j))) (xA g) U H) ∧
  vk_S 11 xLen xByt (gS g) (gY g) (xA g) U H ∧ va_Z "java/lang/String" "COMPACT_STRINGS" "Z" (.int 1) (xA g) U H ∧
  va_Zq "java/lang/Throwable" "UNASSIGNED_STACK" "[Ljava/lang/StackTraceElement;" (xA g) U H ∧ va_Zq "java/lang/Throwable" "SUPPRESSED_SENTINEL" "Ljava/util/List;" (xA g) U H ∧ va_Zq "jdk/internal/util/Preconditions" "SIOOBE_FORMATTER" "Ljava/util/function/BiFunction;" (xA g) U H
def xF (g : xG) (U : State) (H : Heap) : Prop := xT g U ∧ xU g U H
theorem xT.warm {g : xG} {s U : State} (hW : s.WarmedH U.vm) (h : xT g s) : xT g U := by
  obtain ⟨h1, ⟨h2, h3, h4⟩, ⟨h5, h6, h8, h9⟩, h7⟩ := h
  exact ⟨va_K.moved hW.alike h1, ⟨va_AO.moved hW.alike h2, va_AO.moved hW.alike h3, va_AO.moved hW.alike h4⟩, ⟨va_Nw.warmF hW h5, va_Nw.warmF hW h6, va_Nw.warmM hW h8, va_Nw.warmM hW h9⟩, fun i q hq => vk_R.warm hW (h7 i q hq)⟩
theorem xT.same {g : xG} {s U : State} (hv : s.vm = U.vm) (h : xT g s) : xT g U := by
  have hA : s.vm.Alike U.vm := hv ▸ Vm.Alike.refl s.vm
  obtain ⟨h1, ⟨h2, h3, h4⟩, ⟨h5, h6, h8, h9⟩, h7⟩ := h
  exact ⟨va_K.moved hA h1, ⟨va_AO.moved hA h2, va_AO.moved hA h3, va_AO.moved hA h4⟩, ⟨va_Nw.same rfl hv h5, va_Nw.same rfl hv h6, va_Nw.same rfl hv h8, va_Nw.same rfl hv h9⟩, fun i q hq => vk_R.same hv.symm (h7 i q hq)⟩
theorem xU.moved {g : xG} {s U : State} {H : Heap} (hA : s.vm.Alike U.vm) (h : xU g s H) : xU g U H := by
  obtain ⟨⟨h1, h2⟩, h3, h4, h5, h6, h7⟩ := h
  exact ⟨⟨va_Z.moved hA h1, va_T.moved hA h2⟩, vk_S.moved hA h3, va_Z.moved hA h4, va_Zq.moved hA h5, va_Zq.moved hA h6, va_Zq.moved hA h7⟩
theorem xU.kept {g : xG} {U : State} {H H1 : Heap} (h : xU g U H) (hq : ∀ a : Nat, a < H.size → ¬ xA g a → H1[a]? = H[a]?) : xU g U H1 := by
  obtain ⟨⟨h1, h2⟩, h3, h4, h5, h6, h7⟩ := h
  exact ⟨⟨h1.kept hq, h2.kept hq⟩, h3.kept hq, h4.kept hq, h5.kept hq, h6.kept hq, h7.kept hq⟩
/-! contracts -/
/-- a method: name, code, locals, answer, room -/
abbrev xM : Type := MethodName × ByteArray × Nat × Option FieldType × Room
abbrev xm_y (M : xM) : MethodName := M.1
abbrev xm_c (M : xM) : ByteArray := M.2.1
abbrev xm_n (M : xM) : Nat := M.2.2.1
abbrev xm_t (M : xM) : Option FieldType := M.2.2.2.1
abbrev xm_r (M : xM) : Room := M.2.2.2.2
abbrev xPost : Type := Option Value → xHp → Nat → Prop
def xW (g : xG) (h : xHp) (nx : Nat) (U : State) : Prop := xH g h nx U.heap ∧ xF g U U.heap ∧ gB g ≤ U.heap.size
def xQ (g : xG) (post : xPost) : Array Value → State → Outcome → State → Prop := fun _ st oc t => (∃ (r : Option Value) (h : xHp) (nx : Nat), oc = .returned r ∧ post r h nx ∧ xH g h nx t.heap) ∧ va_F (xA g) st t
def Cx (g : xG) (M : xM) (p : Program) (s : State) (m : MethodId) (args : Array Value) (meth : Method) (c : Code) : Prop :=
  p.tables.exec = Jvm.exec ∧ c.code = xm_c M ∧ c.maxLocals = xm_n M ∧ meth.sig.returnType = xm_t M ∧ meth.locks = false ∧ meth.name = (xm_y M).name ∧ s.vm.findClass (xm_y M).cls = some m.cls ∧ (∀ w ∈ lw_gd, w.before args s = true) ∧ xF g s s.heap ∧ gB g ≤ s.heap.size
def Blk (g : xG) (M : xM) (post : xPost) (pc : Nat) (L : List (Nat × Value)) (st : List Value) (h : xHp) (nx cu su : Nat) : Prop :=
  ∀ (p : Program) (e : Env) (s : State) (m : MethodId) (args : Array Value) (below : List Frame) (meth : Method) (c : Code), Cx g M p s m args meth c →
  ∀ (H : Heap) (locs : List Loc) (ls : Array Slot), xH g h nx H → va_S (xA g) s.heap H locs → lv_has ls (xm_n M) L →
    W p (gL g) e (xm_r M) s m args below meth c H locs cu su (MQ below (xQ g post) args s (xm_r M).cells (xm_r M).slots (xA g)) (F0 m pc ls st)
def Ct (g : xG) (M : xM) (args : List Value) (h : xHp) (nx : Nat) (post : xPost) : Prop :=
  Met (gL g) (xm_y M) (.code (xm_y M) (xm_c M) (xm_n M) (xm_t M) :: lw_gd) (xm_r M) (va_Pc args (xW g h nx)) (xQ g post) (xm_r M).cells (xm_r M).slots (xA g)
theorem Ct.of {g : xG} {M : xM} {args : List Value} {h : xHp} {nx : Nat} {post : xPost} (hy : plainName (xm_y M).cls = true) (hl : (lg_sl args).length ≤ xm_n M) (k : Blk g M post 0 (lv_args 0 args) [] h nx 0 0) : Ct g M args h nx post := by
  refine Met.ofW (cc := xm_c M) (maxL := xm_n M) (ret := xm_t M) hy rfl ?_
  intro p e s m args' below meth c s₁ B hml hv
  obtain ⟨rfl, hH, hF, hB⟩ := hv
  have hts := atoms_spec (ws := .code (xm_y M) (xm_c M) (xm_n M) (xm_t M) :: lw_gd) B.pre
  have hown : s.vm.findClass (xm_y M).cls = some m.cls := findClass_of_methodNamed B.named
  have hl0 := lv_entry args (n := xm_n M) hl
  rw [lg_entry_eq]
  exact k p e s m _ below meth c ⟨B.exec, B.bytes, hml, B.returns, B.notSynchronized, (name_of_methodNamed B.named B.method).1, hown, fun w hw => hts w (List.mem_cons_of_mem _ hw), hF, hB⟩ s.heap [] _ hH va_S.rf hl0
theorem Ct.imp {g : xG} {M : xM} {args : List Value} {h : xHp} {nx : Nat} {P Q : xPost} (k : Ct g M args h nx P) (hi : ∀ r h' nx', P r h' nx' → Q r h' nx') : Ct g M args h nx Q := by
  intro p e h1 h2 h3 s m a below h4 h5 h6 h7
  obtain ⟨n, o, q1, q2, q3, ⟨⟨r, h', nx', q4, q5, q6⟩, q7⟩, q8⟩ := k p e h1 h2 h3 s m a below h4 h5 h6 h7
  exact ⟨n, o, q1, q2, q3, ⟨⟨r, h', nx', q4, hi _ _ _ q5, q6⟩, q7⟩, q8⟩
theorem Blk.sub {g : xG} {M : xM} {post : xPost} {pc : Nat} {L L' : List (Nat × Value)} {st : List Value} {h : xHp} {nx cu su : Nat} (ks : List Nat) (hl : lv_pick L ks = L') (k : Blk g M post pc L' st h nx cu su) : Blk g M post pc L st h nx cu su :=
  fun p e s m args below meth c C H locs ls hH hS hL => k p e s m args below meth c C H locs ls hH hS (lv_sub hL ks hl)
theorem Blk.eqs {g : xG} {M : xM} {post : xPost} {pc : Nat} {L L' : List (Nat × Value)} {st st' : List Value} {h h' : xHp} {nx cu su : Nat} (k : Blk g M post pc L' st' h' nx cu su) (e1 : L = L') (e2 : st = st') (e3 : h = h') : Blk g M post pc L st h nx cu su := by
  subst e1; subst e2; subst e3; exact k
theorem Blk.wide {g : xG} {M : xM} {post : xPost} {pc : Nat} {L : List (Nat × Value)} {st : List Value} {h : xHp} {nx cu su cu' su' : Nat} (k : Blk g M post pc L st h nx cu' su') (h1 : cu ≤ cu') (h2 : su ≤ su') : Blk g M post pc L st h nx cu su :=
  fun p e s m args below meth c C H locs ls hH hS hL => W.widen h1 h2 (k p e s m args below meth c C H locs ls hH hS hL)
