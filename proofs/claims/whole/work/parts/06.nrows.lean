/-! rows for numbers that are naturals -/
abbrev xna (N : Nat) (f : Nat → Nat) : xE := xia N (fun j => nI (f j))
abbrev xnc (N : Nat) (f : Nat → Nat) : xE := xca N (fun j => nI (f j))
abbrev xnl (N : Nat) (f : Nat → Nat) : xE := xla N (fun j => lN (f j))
abbrev xnz (N : Nat) (f : Nat → Nat) : xE := xza N (fun j => nI (f j))
theorem va_upN (f : Nat → Nat) (j x : Nat) : va_up (fun j => nI (f j)) j (nI x) = fun k => nI (va_up f j x k) := by
  funext k
  unfold va_up
  by_cases h : k = j
  · rw [if_pos h, if_pos h]
  · rw [if_neg h, if_neg h]
theorem va_upL (f : Nat → Nat) (j x : Nat) : va_up (fun j => lN (f j)) j (lN x) = fun k => lN (va_up f j x k) := by
  funext k
  unfold va_up
  by_cases h : k = j
  · rw [if_pos h, if_pos h]
  · rw [if_neg h, if_neg h]
theorem va_cpyN (f f1 : Nat → Nat) (sp dp n : Nat) : va_cpy (fun j => nI (f j)) (fun j => nI (f1 j)) sp dp n = fun k => nI (va_cpy f f1 sp dp n k) := by
  funext k
  unfold va_cpy
  by_cases h : dp ≤ k ∧ k < dp + n
  · rw [if_pos h, if_pos h]
  · rw [if_neg h, if_neg h]
theorem n_and31 (b : Nat) : True := trivial
section R4
variable {g : xG} {M : xM} {post : xPost} {pc : Nat} {L : List (Nat × Value)} {st : List Value} {h : xHp} {nx cu su : Nat}
theorem r_iaddN {a b : Nat} (hd : decode (xm_c M) pc = .ok (.iadd, 1)) (k : Blk g M post (pc + 1) L (.int (nI (a + b)) :: st) h nx cu su) : Blk g M post pc L (.int (nI b) :: .int (nI a) :: st) h nx cu su := r_iadd hd (by rw [nI_add]; exact k)
theorem r_imulN {a b : Nat} (hd : decode (xm_c M) pc = .ok (.imul, 1)) (k : Blk g M post (pc + 1) L (.int (nI (a * b)) :: st) h nx cu su) : Blk g M post pc L (.int (nI b) :: .int (nI a) :: st) h nx cu su := r_imul hd (by rw [pk_mul]; exact k)
theorem r_isubN {a b : Nat} (hd : decode (xm_c M) pc = .ok (.isub, 1)) (hb : b ≤ a) (k : Blk g M post (pc + 1) L (.int (nI (a - b)) :: st) h nx cu su) : Blk g M post pc L (.int (nI b) :: .int (nI a) :: st) h nx cu su := r_isub hd (by rw [pk_sub hb]; exact k)
theorem r_idivN {a b : Nat} (hd : decode (xm_c M) pc = .ok (.idiv, 1)) (hs : a < 2 ^ 31 ∧ 0 < b ∧ b < 2 ^ 31) (k : Blk g M post (pc + 1) L (.int (nI (a / b)) :: st) h nx cu su) : Blk g M post pc L (.int (nI b) :: .int (nI a) :: st) h nx cu su := r_idiv hd (nI_ne0 hs.2.1 hs.2.2) (by rw [pk_div hs.1 hs.2.1 hs.2.2]; exact k)
theorem r_iremN {a b : Nat} (hd : decode (xm_c M) pc = .ok (.irem, 1)) (hs : a < 2 ^ 31 ∧ 0 < b ∧ b < 2 ^ 31) (k : Blk g M post (pc + 1) L (.int (nI (a % b)) :: st) h nx cu su) : Blk g M post pc L (.int (nI b) :: .int (nI a) :: st) h nx cu su := r_irem hd (nI_ne0 hs.2.1 hs.2.2) (by rw [pk_rem hs.1 hs.2.1 hs.2.2]; exact k)
theorem r_laddN {a b : Nat} (hd : decode (xm_c M) pc = .ok (.ladd, 1)) (k : Blk g M post (pc + 1) L (.long (lN (a + b)) :: st) h nx cu su) : Blk g M post pc L (.long (lN b) :: .long (lN a) :: st) h nx cu su := r_ladd hd (by rw [lN_add]; exact k)
theorem r_lmulN {a b : Nat} (hd : decode (xm_c M) pc = .ok (.lmul, 1)) (k : Blk g M post (pc + 1) L (.long (lN (a * b)) :: st) h nx cu su) : Blk g M post pc L (.long (lN b) :: .long (lN a) :: st) h nx cu su := r_lmul hd (by rw [lN_mul]; exact k)
theorem r_lsubN {a b : Nat} (hd : decode (xm_c M) pc = .ok (.lsub, 1)) (hb : b ≤ a) (k : Blk g M post (pc + 1) L (.long (lN (a - b)) :: st) h nx cu su) : Blk g M post pc L (.long (lN b) :: .long (lN a) :: st) h nx cu su := r_lsub hd (by rw [lN_sub hb]; exact k)
theorem lN_ne0 {b : Nat} (h0 : 0 < b) (h : b < 2 ^ 63) : ¬ lN b = 0 := fun q => by
  have := (pk_lEQ (a := b) (b := 0) h (by decide)).mp q
  omega
theorem r_ldivN {a b : Nat} (hd : decode (xm_c M) pc = .ok (.ldiv, 1)) (hs : a < 2 ^ 63 ∧ 0 < b ∧ b < 2 ^ 63) (k : Blk g M post (pc + 1) L (.long (lN (a / b)) :: st) h nx cu su) : Blk g M post pc L (.long (lN b) :: .long (lN a) :: st) h nx cu su := r_ldiv hd (lN_ne0 hs.2.1 hs.2.2) (by rw [pk_lDiv hs.1 hs.2.1 hs.2.2]; exact k)
theorem r_lremN {a b : Nat} (hd : decode (xm_c M) pc = .ok (.lrem, 1)) (hs : a < 2 ^ 63 ∧ 0 < b ∧ b < 2 ^ 63) (k : Blk g M post (pc + 1) L (.long (lN (a % b)) :: st) h nx cu su) : Blk g M post pc L (.long (lN b) :: .long (lN a) :: st) h nx cu su := r_lrem hd (lN_ne0 hs.2.1 hs.2.2) (by rw [pk_lRem hs.1 hs.2.1 hs.2.2]; exact k)
theorem r_i2lN {a : Nat} (hd : decode (xm_c M) pc = .ok (.i2l, 1)) (ha : a < 2 ^ 31) (k : Blk g M post (pc + 1) L (.long (lN a) :: st) h nx cu su) : Blk g M post pc L (.int (nI a) :: st) h nx cu su := r_i2l hd (by rw [nI_l ha]; exact k)
theorem r_l2iN {a : Nat} (hd : decode (xm_c M) pc = .ok (.l2i, 1)) (k : Blk g M post (pc + 1) L (.int (nI a) :: st) h nx cu su) : Blk g M post pc L (.long (lN a) :: st) h nx cu su := r_l2i hd (by rw [lN_i]; exact k)
theorem r_i2cN {a : Nat} (hd : decode (xm_c M) pc = .ok (.i2c, 1)) (ha : a < 65536) (k : Blk g M post (pc + 1) L (.int (nI a) :: st) h nx cu su) : Blk g M post pc L (.int (nI a) :: st) h nx cu su := r_i2c hd (by rw [pk_char, pk_tn (by omega), Nat.mod_eq_of_lt ha]; exact k)
theorem r_iincN (j : Nat) {i a b : Nat} {n : Int} {L' : List (Nat × Value)} (hd : decode (xm_c M) pc = .ok (.iinc i n, 3)) (hk : L[j]? = some (i, .int (nI a))) (hv : Int32.ofInt n = nI b) (hn : i < xm_n M) (hl : (i, Value.int (nI (a + b))) :: L.filter (fun q => !(q.1 == i) && !(q.1 + 1 == i && q.2.category == 2)) = L') (k : Blk g M post (pc + 3) L' st h nx cu su) : Blk g M post pc L st h nx cu su := r_iinc j (v := nI b) hd hk hv hn (by rw [nI_add]; exact hl) k
theorem r_idecN (j : Nat) {i a : Nat} {L' : List (Nat × Value)} (hd : decode (xm_c M) pc = .ok (.iinc i (-1), 3)) (hk : L[j]? = some (i, .int (nI a))) (ha : 1 ≤ a) (hn : i < xm_n M) (hl : (i, Value.int (nI (a - 1))) :: L.filter (fun q => !(q.1 == i) && !(q.1 + 1 == i && q.2.category == 2)) = L') (k : Blk g M post (pc + 3) L' st h nx cu su) : Blk g M post pc L st h nx cu su :=
  r_iinc j (v := -1) hd hk rfl hn (by obtain ⟨b, rfl⟩ : ∃ b, a = b + 1 := ⟨a - 1, by omega⟩; rw [pk_m1]; exact hl) k
theorem r_icmp_eqN {a b : Nat} {off : Int} {tgt : Nat} (hd : decode (xm_c M) pc = .ok (.if_icmp .eq off, 3)) (ht : (pc : Int) + off = (tgt : Int)) (hs : a < 2 ^ 31 ∧ b < 2 ^ 31) (kt : a = b → Blk g M post tgt L st h nx cu su) (kf : ¬ a = b → Blk g M post (pc + 3) L st h nx cu su) : Blk g M post pc L (.int (nI b) :: .int (nI a) :: st) h nx cu su := r_icmp_eq hd ht (fun q => kt ((nI_eq hs.1 hs.2).mp q)) (fun q => kf (fun z => q ((nI_eq hs.1 hs.2).mpr z)))
theorem r_icmp_neN {a b : Nat} {off : Int} {tgt : Nat} (hd : decode (xm_c M) pc = .ok (.if_icmp .ne off, 3)) (ht : (pc : Int) + off = (tgt : Int)) (hs : a < 2 ^ 31 ∧ b < 2 ^ 31) (kt : ¬ a = b → Blk g M post tgt L st h nx cu su) (kf : a = b → Blk g M post (pc + 3) L st h nx cu su) : Blk g M post pc L (.int (nI b) :: .int (nI a) :: st) h nx cu su := r_icmp_ne hd ht (fun q => kt (fun z => q ((nI_eq hs.1 hs.2).mpr z))) (fun q => kf ((nI_eq hs.1 hs.2).mp q))
theorem r_icmp_ltN {a b : Nat} {off : Int} {tgt : Nat} (hd : decode (xm_c M) pc = .ok (.if_icmp .lt off, 3)) (ht : (pc : Int) + off = (tgt : Int)) (hs : a < 2 ^ 31 ∧ b < 2 ^ 31) (kt : a < b → Blk g M post tgt L st h nx cu su) (kf : b ≤ a → Blk g M post (pc + 3) L st h nx cu su) : Blk g M post pc L (.int (nI b) :: .int (nI a) :: st) h nx cu su := r_icmp_lt hd ht (fun q => kt ((nI_ltI hs.1 hs.2).mp q)) (fun q => kf (Nat.le_of_not_lt fun z => q ((nI_ltI hs.1 hs.2).mpr z)))
theorem r_icmp_geN {a b : Nat} {off : Int} {tgt : Nat} (hd : decode (xm_c M) pc = .ok (.if_icmp .ge off, 3)) (ht : (pc : Int) + off = (tgt : Int)) (hs : a < 2 ^ 31 ∧ b < 2 ^ 31) (kt : b ≤ a → Blk g M post tgt L st h nx cu su) (kf : a < b → Blk g M post (pc + 3) L st h nx cu su) : Blk g M post pc L (.int (nI b) :: .int (nI a) :: st) h nx cu su := r_icmp_ge hd ht (fun q => kt ((nI_leI hs.2 hs.1).mp q)) (fun q => kf (Nat.lt_of_not_le fun z => q ((nI_leI hs.2 hs.1).mpr z)))
theorem r_icmp_gtN {a b : Nat} {off : Int} {tgt : Nat} (hd : decode (xm_c M) pc = .ok (.if_icmp .gt off, 3)) (ht : (pc : Int) + off = (tgt : Int)) (hs : a < 2 ^ 31 ∧ b < 2 ^ 31) (kt : b < a → Blk g M post tgt L st h nx cu su) (kf : a ≤ b → Blk g M post (pc + 3) L st h nx cu su) : Blk g M post pc L (.int (nI b) :: .int (nI a) :: st) h nx cu su := r_icmp_gt hd ht (fun q => kt ((nI_ltI hs.2 hs.1).mp q)) (fun q => kf (Nat.le_of_not_lt fun z => q ((nI_ltI hs.2 hs.1).mpr z)))
theorem r_icmp_leN {a b : Nat} {off : Int} {tgt : Nat} (hd : decode (xm_c M) pc = .ok (.if_icmp .le off, 3)) (ht : (pc : Int) + off = (tgt : Int)) (hs : a < 2 ^ 31 ∧ b < 2 ^ 31) (kt : a ≤ b → Blk g M post tgt L st h nx cu su) (kf : b < a → Blk g M post (pc + 3) L st h nx cu su) : Blk g M post pc L (.int (nI b) :: .int (nI a) :: st) h nx cu su := r_icmp_le hd ht (fun q => kt ((nI_leI hs.1 hs.2).mp q)) (fun q => kf (Nat.lt_of_not_le fun z => q ((nI_leI hs.1 hs.2).mpr z)))
theorem n_z : (0 : Int32) = nI 0 := rfl
theorem r_if_eqN {a : Nat} {off : Int} {tgt : Nat} (hd : decode (xm_c M) pc = .ok (.ifCond .eq off, 3)) (ht : (pc : Int) + off = (tgt : Int)) (hs : a < 2 ^ 31) (kt : a = 0 → Blk g M post tgt L st h nx cu su) (kf : ¬ a = 0 → Blk g M post (pc + 3) L st h nx cu su) : Blk g M post pc L (.int (nI a) :: st) h nx cu su := r_if_eq hd ht (fun q => kt ((nI_eq hs (by decide)).mp (q.trans n_z))) (fun q => kf (fun z => q (by rw [z]; rfl)))
theorem r_if_neN {a : Nat} {off : Int} {tgt : Nat} (hd : decode (xm_c M) pc = .ok (.ifCond .ne off, 3)) (ht : (pc : Int) + off = (tgt : Int)) (hs : a < 2 ^ 31) (kt : ¬ a = 0 → Blk g M post tgt L st h nx cu su) (kf : a = 0 → Blk g M post (pc + 3) L st h nx cu su) : Blk g M post pc L (.int (nI a) :: st) h nx cu su := r_if_ne hd ht (fun q => kt (fun z => q (by rw [z]; rfl))) (fun q => kf ((nI_eq hs (by decide)).mp (q.trans n_z)))
theorem r_if_ltN {a : Nat} {off : Int} {tgt : Nat} (hd : decode (xm_c M) pc = .ok (.ifCond .lt off, 3)) (ht : (pc : Int) + off = (tgt : Int)) (hs : a < 2 ^ 31) (kf : Blk g M post (pc + 3) L st h nx cu su) : Blk g M post pc L (.int (nI a) :: st) h nx cu su := r_if_lt hd ht (fun q => absurd q (nI_pos hs)) (fun _ => kf)
theorem r_if_geN {a : Nat} {off : Int} {tgt : Nat} (hd : decode (xm_c M) pc = .ok (.ifCond .ge off, 3)) (ht : (pc : Int) + off = (tgt : Int)) (hs : a < 2 ^ 31) (kt : Blk g M post tgt L st h nx cu su) : Blk g M post pc L (.int (nI a) :: st) h nx cu su := r_if_ge hd ht (fun _ => kt) (fun q => absurd (nI_pos' hs) q)
theorem r_if_gtN {a : Nat} {off : Int} {tgt : Nat} (hd : decode (xm_c M) pc = .ok (.ifCond .gt off, 3)) (ht : (pc : Int) + off = (tgt : Int)) (hs : a < 2 ^ 31) (kt : 0 < a → Blk g M post tgt L st h nx cu su) (kf : a = 0 → Blk g M post (pc + 3) L st h nx cu su) : Blk g M post pc L (.int (nI a) :: st) h nx cu su := r_if_gt hd ht (fun q => kt ((nI_ltI (by decide) hs).mp (show nI 0 < nI a from q))) (fun q => kf (Nat.eq_zero_of_not_pos fun z => q (show nI 0 < nI a from (nI_ltI (by decide) hs).mpr z)))
theorem r_if_leN {a : Nat} {off : Int} {tgt : Nat} (hd : decode (xm_c M) pc = .ok (.ifCond .le off, 3)) (ht : (pc : Int) + off = (tgt : Int)) (hs : a < 2 ^ 31) (kt : a = 0 → Blk g M post tgt L st h nx cu su) (kf : 0 < a → Blk g M post (pc + 3) L st h nx cu su) : Blk g M post pc L (.int (nI a) :: st) h nx cu su := r_if_le hd ht (fun q => kt (Nat.le_zero.mp ((nI_leI hs (by decide)).mp (show nI a ≤ nI 0 from q)))) (fun q => kf (Nat.pos_of_ne_zero fun z => q (by rw [z]; exact Int32.le_refl _)))
/-! lcmp and the branch behind it -/
theorem r_lif_le {a b : Nat} {off : Int} {tgt : Nat} (hd : decode (xm_c M) pc = .ok (.lcmp, 1)) (hd2 : decode (xm_c M) (pc + 1) = .ok (.ifCond .le off, 3)) (ht : ((pc + 1 : Nat) : Int) + off = (tgt : Int)) (hs : a < 2 ^ 63 ∧ b < 2 ^ 63) (kt : a ≤ b → Blk g M post tgt L st h nx cu su) (kf : b < a → Blk g M post (pc + 1 + 3) L st h nx cu su) : Blk g M post pc L (.long (lN b) :: .long (lN a) :: st) h nx cu su := r_lcmp hd (r_if_le hd2 ht (fun q => kt ((pk_lLE hs.1 hs.2).mp ((lg_cmp_le _ _).mp q))) (fun q => kf (Nat.lt_of_not_le fun z => q ((lg_cmp_le _ _).mpr ((pk_lLE hs.1 hs.2).mpr z)))))
theorem r_lif_gt {a b : Nat} {off : Int} {tgt : Nat} (hd : decode (xm_c M) pc = .ok (.lcmp, 1)) (hd2 : decode (xm_c M) (pc + 1) = .ok (.ifCond .gt off, 3)) (ht : ((pc + 1 : Nat) : Int) + off = (tgt : Int)) (hs : a < 2 ^ 63 ∧ b < 2 ^ 63) (kt : b < a → Blk g M post tgt L st h nx cu su) (kf : a ≤ b → Blk g M post (pc + 1 + 3) L st h nx cu su) : Blk g M post pc L (.long (lN b) :: .long (lN a) :: st) h nx cu su := r_lcmp hd (r_if_gt hd2 ht (fun q => kt ((pk_lLT hs.2 hs.1).mp ((lg_cmp_gt _ _).mp q))) (fun q => kf (Nat.le_of_not_lt fun z => q ((lg_cmp_gt _ _).mpr ((pk_lLT hs.2 hs.1).mpr z)))))
theorem r_lif_lt {a b : Nat} {off : Int} {tgt : Nat} (hd : decode (xm_c M) pc = .ok (.lcmp, 1)) (hd2 : decode (xm_c M) (pc + 1) = .ok (.ifCond .lt off, 3)) (ht : ((pc + 1 : Nat) : Int) + off = (tgt : Int)) (hs : a < 2 ^ 63 ∧ b < 2 ^ 63) (kt : a < b → Blk g M post tgt L st h nx cu su) (kf : b ≤ a → Blk g M post (pc + 1 + 3) L st h nx cu su) : Blk g M post pc L (.long (lN b) :: .long (lN a) :: st) h nx cu su := r_lcmp hd (r_if_lt hd2 ht (fun q => kt ((pk_lLT hs.1 hs.2).mp ((lg_cmp_lt _ _).mp q))) (fun q => kf (Nat.le_of_not_lt fun z => q ((lg_cmp_lt _ _).mpr ((pk_lLT hs.1 hs.2).mpr z)))))
theorem r_lif_ge {a b : Nat} {off : Int} {tgt : Nat} (hd : decode (xm_c M) pc = .ok (.lcmp, 1)) (hd2 : decode (xm_c M) (pc + 1) = .ok (.ifCond .ge off, 3)) (ht : ((pc + 1 : Nat) : Int) + off = (tgt : Int)) (hs : a < 2 ^ 63 ∧ b < 2 ^ 63) (kt : b ≤ a → Blk g M post tgt L st h nx cu su) (kf : a < b → Blk g M post (pc + 1 + 3) L st h nx cu su) : Blk g M post pc L (.long (lN b) :: .long (lN a) :: st) h nx cu su := r_lcmp hd (r_if_ge hd2 ht (fun q => kt ((pk_lLE hs.2 hs.1).mp ((lg_cmp_ge _ _).mp q))) (fun q => kf (Nat.lt_of_not_le fun z => q ((lg_cmp_ge _ _).mpr ((pk_lLE hs.2 hs.1).mpr z)))))
theorem r_lif_eq {a b : Nat} {off : Int} {tgt : Nat} (hd : decode (xm_c M) pc = .ok (.lcmp, 1)) (hd2 : decode (xm_c M) (pc + 1) = .ok (.ifCond .eq off, 3)) (ht : ((pc + 1 : Nat) : Int) + off = (tgt : Int)) (hs : a < 2 ^ 63 ∧ b < 2 ^ 63) (kt : a = b → Blk g M post tgt L st h nx cu su) (kf : ¬ a = b → Blk g M post (pc + 1 + 3) L st h nx cu su) : Blk g M post pc L (.long (lN b) :: .long (lN a) :: st) h nx cu su := r_lcmp hd (r_if_eq hd2 ht (fun q => kt ((pk_lEQ hs.1 hs.2).mp ((lg_cmp_eq _ _).mp q))) (fun q => kf (fun z => q ((lg_cmp_eq _ _).mpr ((pk_lEQ hs.1 hs.2).mpr z)))))
theorem r_lif_ne {a b : Nat} {off : Int} {tgt : Nat} (hd : decode (xm_c M) pc = .ok (.lcmp, 1)) (hd2 : decode (xm_c M) (pc + 1) = .ok (.ifCond .ne off, 3)) (ht : ((pc + 1 : Nat) : Int) + off = (tgt : Int)) (hs : a < 2 ^ 63 ∧ b < 2 ^ 63) (kt : ¬ a = b → Blk g M post tgt L st h nx cu su) (kf : a = b → Blk g M post (pc + 1 + 3) L st h nx cu su) : Blk g M post pc L (.long (lN b) :: .long (lN a) :: st) h nx cu su := r_lcmp hd (r_if_ne hd2 ht (fun q => kt (fun z => q ((lg_cmp_eq _ _).mpr ((pk_lEQ hs.1 hs.2).mpr z)))) (fun q => kf ((pk_lEQ hs.1 hs.2).mp ((lg_cmp_eq _ _).mp q))))
/-! arrays of naturals -/
theorem r_iastN {a N j x : Nat} {f : Nat → Nat} (hd : decode (xm_c M) pc = .ok (.iastore, 1)) (ha : h a = some (xna N f)) (hj : j < N) (hN : N < 2 ^ 31) (k : Blk g M post (pc + 1) L st (xup h a (xna N (va_up f j x))) nx cu su) : Blk g M post pc L (.int (nI x) :: .int (nI j) :: .ref a :: st) h nx cu su := r_iast hd ha rfl hj hN (by rw [va_upN]; exact k)
theorem r_lastN {a N j x : Nat} {f : Nat → Nat} (hd : decode (xm_c M) pc = .ok (.lastore, 1)) (ha : h a = some (xnl N f)) (hj : j < N) (hN : N < 2 ^ 31) (k : Blk g M post (pc + 1) L st (xup h a (xnl N (va_up f j x))) nx cu su) : Blk g M post pc L (.long (lN x) :: .int (nI j) :: .ref a :: st) h nx cu su := r_last hd ha rfl hj hN (by rw [va_upL]; exact k)
theorem r_iastH {a N j x : Nat} {i : Int32} {f : Nat → Nat} (hd : decode (xm_c M) pc = .ok (.iastore, 1)) (ha : h a = some (xna N f)) (hi : i = nI j) (hj : j < N) (hN : N < 2 ^ 31) (k : Blk g M post (pc + 1) L st (xup h a (xna N (va_up f j x))) nx cu su) : Blk g M post pc L (.int (nI x) :: .int i :: .ref a :: st) h nx cu su := r_iast hd ha hi hj hN (by rw [va_upN]; exact k)
theorem r_lastH {a N j x : Nat} {i : Int32} {f : Nat → Nat} (hd : decode (xm_c M) pc = .ok (.lastore, 1)) (ha : h a = some (xnl N f)) (hi : i = nI j) (hj : j < N) (hN : N < 2 ^ 31) (k : Blk g M post (pc + 1) L st (xup h a (xnl N (va_up f j x))) nx cu su) : Blk g M post pc L (.long (lN x) :: .int i :: .ref a :: st) h nx cu su := r_last hd ha hi hj hN (by rw [va_upL]; exact k)
theorem n_char {a : Nat} (h : a < 65536) : narrow .char (.int (nI a)) = .int (nI a) := (pk_charN h).1
theorem n_bool {a : Nat} (h : a ≤ 1) : narrow .boolean (.int (nI a)) = .int (nI a) := by
  rcases (show a = 0 ∨ a = 1 by omega) with rfl | rfl <;> rfl
theorem n_boolf {a : Nat} (h : a ≤ 1) : fits .boolean (.int (nI a)) = true := by
  rcases (show a = 0 ∨ a = 1 by omega) with rfl | rfl <;> rfl
theorem r_castN {a N j x : Nat} {f : Nat → Nat} (hd : decode (xm_c M) pc = .ok (.castore, 1)) (ha : h a = some (xnc N f)) (hj : j < N) (hN : N < 2 ^ 31) (hx : x < 65536) (k : Blk g M post (pc + 1) L st (xup h a (xnc N (va_up f j x))) nx cu su) : Blk g M post pc L (.int (nI x) :: .int (nI j) :: .ref a :: st) h nx cu su := r_cast hd ha rfl hj hN (n_char hx) (by rw [va_upN]; exact k)
theorem r_zastN {a N j x : Nat} {f : Nat → Nat} (hd : decode (xm_c M) pc = .ok (.bastore, 1)) (ha : h a = some (xnz N f)) (hj : j < N) (hN : N < 2 ^ 31) (hx : x ≤ 1) (k : Blk g M post (pc + 1) L st (xup h a (xnz N (va_up f j x))) nx cu su) : Blk g M post pc L (.int (nI x) :: .int (nI j) :: .ref a :: st) h nx cu su := r_zast hd ha rfl hj hN (n_bool hx) (by rw [va_upN]; exact k)
theorem r_copyN {a0 a N0 N1 sp dp n idx : Nat} {f f1 : Nat → Nat} (h1 : Cond.methodLink (xm_y M).cls idx arraycopyName ∈ lw_gd) (h2 : Cond.native arraycopyName ∈ lw_gd) (h3 : Cond.static arraycopyName ∈ lw_gd) (h4 : Cond.initialized "java/lang/System" ∈ lw_gd) (hd : decode (xm_c M) pc = .ok (.invokestatic idx, 3)) (hf : 1 ≤ (xm_r M).frames) (hlo : (st.map fun v => v.category).sum + (nativeFrameWords "java/lang/System" "arraycopy" 5 + 11) ≤ (xm_r M).locals) (ha0 : h a0 = some (xna N0 f)) (ha : h a = some (xna N1 f1)) (hN : sp + n ≤ N0 ∧ dp + n ≤ N1 ∧ N0 < 2 ^ 31 ∧ N1 < 2 ^ 31) (k : Blk g M post (pc + 3) L st (xup h a (xna N1 (va_cpy f f1 sp dp n))) nx cu su) : Blk g M post pc L (.int (nI n) :: .int (nI dp) :: .ref a :: .int (nI sp) :: .ref a0 :: st) h nx cu su := r_copyi h1 h2 h3 h4 hd hf hlo ha0 ha rfl rfl rfl hN (by rw [va_cpyN]; exact k)
/-! Math of naturals -/
theorem n_max {a b : Nat} (ha : a < 2 ^ 31) (hb : b < 2 ^ 31) : (if nI a < nI b then nI b else nI a) = nI (max a b) := by
  by_cases q : a < b
  · rw [if_pos ((nI_ltI ha hb).mpr q), Nat.max_eq_right (Nat.le_of_lt q)]
  · rw [if_neg (fun z => q ((nI_ltI ha hb).mp z)), Nat.max_eq_left (Nat.le_of_not_lt q)]
theorem n_min {a b : Nat} (ha : a < 2 ^ 31) (hb : b < 2 ^ 31) : (if nI b < nI a then nI b else nI a) = nI (min a b) := by
  by_cases q : b < a
  · rw [if_pos ((nI_ltI hb ha).mpr q), Nat.min_eq_right (Nat.le_of_lt q)]
  · rw [if_neg (fun z => q ((nI_ltI hb ha).mp z)), Nat.min_eq_left (Nat.le_of_not_lt q)]
theorem n_maxl {a b : Nat} (ha : a < 2 ^ 63) (hb : b < 2 ^ 63) : (if lN b < lN a then lN a else lN b) = lN (max a b) := by
  by_cases q : b < a
  · rw [if_pos ((pk_lLT hb ha).mpr q), Nat.max_eq_left (Nat.le_of_lt q)]
  · rw [if_neg (fun z => q ((pk_lLT hb ha).mp z)), Nat.max_eq_right (Nat.le_of_not_lt q)]
theorem Blk.to {L' : List (Nat × Value)} {st' : List Value} {h' : xHp} (k : Blk g M post pc L' st' h' nx cu su) (e : L = L' ∧ st = st' ∧ h = h') : Blk g M post pc L st h nx cu su := by
  obtain ⟨rfl, rfl, rfl⟩ := e
  exact k
/-! counting down past 0: the number less 1 -/
theorem n_toP (e : Nat) : nI (e + 1) - nI 1 = nI e := by rw [pk_sub (by omega), Nat.add_sub_cancel]
theorem n_dec {a : Nat} (h : 1 ≤ a) : nI a - nI 1 + (-1) = nI (a - 1) - nI 1 := by
  rw [pk_sub h, Int32.sub_eq_add_neg]
  rfl
theorem r_idecP (j : Nat) {i a : Nat} {L' : List (Nat × Value)} (hd : decode (xm_c M) pc = .ok (.iinc i (-1), 3)) (hk : L[j]? = some (i, .int (nI a - nI 1))) (ha : 1 ≤ a) (hn : i < xm_n M) (hl : (i, Value.int (nI (a - 1) - nI 1)) :: L.filter (fun q => !(q.1 == i) && !(q.1 + 1 == i && q.2.category == 2)) = L') (k : Blk g M post (pc + 3) L' st h nx cu su) : Blk g M post pc L st h nx cu su :=
  r_iinc j (v := -1) hd hk rfl hn (by rw [n_dec ha]; exact hl) k
theorem n_predlt {a : Nat} (h : a < 2 ^ 31) : nI a - nI 1 < 0 ↔ a = 0 := by
  constructor
  · intro q
    rcases Nat.eq_zero_or_pos a with z | z
    · exact z
    · rw [pk_sub z] at q
      exact absurd q (nI_pos (by omega))
  · intro q
    subst q
    decide
theorem r_if_ltP {a : Nat} {off : Int} {tgt : Nat} (hd : decode (xm_c M) pc = .ok (.ifCond .lt off, 3)) (ht : (pc : Int) + off = (tgt : Int)) (hs : a < 2 ^ 31) (kt : a = 0 → Blk g M post tgt L st h nx cu su) (kf : 0 < a → Blk g M post (pc + 3) L st h nx cu su) : Blk g M post pc L (.int (nI a - nI 1) :: st) h nx cu su := r_if_lt hd ht (fun q => kt ((n_predlt hs).mp q)) (fun q => kf (Nat.pos_of_ne_zero fun z => q ((n_predlt hs).mpr z)))
theorem r_if_geP {a : Nat} {off : Int} {tgt : Nat} (hd : decode (xm_c M) pc = .ok (.ifCond .ge off, 3)) (ht : (pc : Int) + off = (tgt : Int)) (hs : a < 2 ^ 31) (kt : 0 < a → Blk g M post tgt L st h nx cu su) (kf : a = 0 → Blk g M post (pc + 3) L st h nx cu su) : Blk g M post pc L (.int (nI a - nI 1) :: st) h nx cu su := r_if_ge hd ht (fun q => kt (Nat.pos_of_ne_zero fun z => Int32.not_lt.mpr q ((n_predlt hs).mpr z))) (fun q => kf ((n_predlt hs).mp (Int32.not_le.mp q)))
end R4
theorem wl3 {a b c : Cond} (h1 : a ∈ lw_gd) (h2 : b ∈ lw_gd) (h3 : c ∈ lw_gd) : ∀ w ∈ [a, b, c], w ∈ lw_gd := by
  intro w h
  simp at h
  rcases h with rfl | rfl | rfl <;> assumption
theorem wl4 {a b c d : Cond} (h1 : a ∈ lw_gd) (h2 : b ∈ lw_gd) (h3 : c ∈ lw_gd) (h4 : d ∈ lw_gd) : ∀ w ∈ [a, b, c, d], w ∈ lw_gd := by
  intro w h
  simp at h
  rcases h with rfl | rfl | rfl | rfl <;> assumption
theorem wl5 {a b c d e : Cond} (h1 : a ∈ lw_gd) (h2 : b ∈ lw_gd) (h3 : c ∈ lw_gd) (h4 : d ∈ lw_gd) (h5 : e ∈ lw_gd) : ∀ w ∈ [a, b, c, d, e], w ∈ lw_gd := by
  intro w h
  simp at h
  rcases h with rfl | rfl | rfl | rfl | rfl <;> assumption
/-- two cells that differ lie apart -/
theorem x_apart {h : xHp} {a b : Nat} {e e2 : xE} (ha : h a = some e) (hb : h b = some e2) (n : e ≠ e2) : a ≠ b := fun q => by
  subst q
  rw [ha] at hb
  exact n (Option.some.inj hb)
theorem x_oa {ci : Nat} {fs : List Value} {q : Nat × vp_A} : (xo ci fs : xE) ≠ .inl q := fun h => by cases h
theorem x_ao {ci : Nat} {fs : List Value} {q : Nat × vp_A} : (.inl q : xE) ≠ xo ci fs := fun h => by cases h
theorem x_oo {ci cj : Nat} {fs gs : List Value} (n : ci ≠ cj) : (xo ci fs : xE) ≠ xo cj gs := fun h => n (Prod.mk.inj (Sum.inr.inj h)).1
theorem x_aa {k k2 : Nat} {q q2 : vp_A} (n : k ≠ k2) : (.inl (k, q) : xE) ≠ .inl (k2, q2) := fun h => n (Prod.mk.inj (Sum.inl.inj h)).1
