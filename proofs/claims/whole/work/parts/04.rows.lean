section R1
variable {g : xG} {M : xM} {post : xPost} {pc : Nat} {L : List (Nat × Value)} {st : List Value} {h : xHp} {nx cu su : Nat}
theorem r_iconst {n : Int} {v : Int32} (hd : decode (xm_c M) pc = .ok (.iconst n, 1)) (hv : Int32.ofInt n = v) (k : Blk g M post (pc + 1) L (.int v :: st) h nx cu su) : Blk g M post pc L (st) h nx cu su := fun p e s m args below meth c C H locs ls hH hS hL => lv_iconst C.1 C.2.1 hd hv (k p e s m args below meth c C H locs ls hH hS hL)
theorem r_bipush {n : Int} {v : Int32} (hd : decode (xm_c M) pc = .ok (.bipush n, 2)) (hv : (Int8.ofInt n).toInt32 = v) (k : Blk g M post (pc + 2) L (.int v :: st) h nx cu su) : Blk g M post pc L (st) h nx cu su := fun p e s m args below meth c C H locs ls hH hS hL => lv_bipush C.1 C.2.1 hd hv (k p e s m args below meth c C H locs ls hH hS hL)
theorem r_sipush {n : Int} {v : Int32} (hd : decode (xm_c M) pc = .ok (.sipush n, 3)) (hv : (Int16.ofInt n).toInt32 = v) (k : Blk g M post (pc + 3) L (.int v :: st) h nx cu su) : Blk g M post pc L (st) h nx cu su := fun p e s m args below meth c C H locs ls hH hS hL => lv_sipush C.1 C.2.1 hd hv (k p e s m args below meth c C H locs ls hH hS hL)
theorem r_lconst {n : Fin 2} {v : Int64} (hd : decode (xm_c M) pc = .ok (.lconst n, 1)) (hv : Int64.ofNat (n : Nat) = v) (k : Blk g M post (pc + 1) L (.long v :: st) h nx cu su) : Blk g M post pc L (st) h nx cu su := fun p e s m args below meth c C H locs ls hH hS hL => lv_lconst C.1 C.2.1 hd hv (k p e s m args below meth c C H locs ls hH hS hL)
theorem r_null  (hd : decode (xm_c M) pc = .ok (.aconst_null, 1))  (k : Blk g M post (pc + 1) L (.null :: st) h nx cu su) : Blk g M post pc L (st) h nx cu su := fun p e s m args below meth c C H locs ls hH hS hL => lv_null C.1 C.2.1 hd  (k p e s m args below meth c C H locs ls hH hS hL)
theorem r_iadd {x y : Int32} (hd : decode (xm_c M) pc = .ok (.iadd, 1))  (k : Blk g M post (pc + 1) L (.int (x + y) :: st) h nx cu su) : Blk g M post pc L (.int y :: .int x :: st) h nx cu su := fun p e s m args below meth c C H locs ls hH hS hL => lv_iadd C.1 C.2.1 hd  (k p e s m args below meth c C H locs ls hH hS hL)
theorem r_isub {x y : Int32} (hd : decode (xm_c M) pc = .ok (.isub, 1))  (k : Blk g M post (pc + 1) L (.int (x - y) :: st) h nx cu su) : Blk g M post pc L (.int y :: .int x :: st) h nx cu su := fun p e s m args below meth c C H locs ls hH hS hL => lv_isub C.1 C.2.1 hd  (k p e s m args below meth c C H locs ls hH hS hL)
theorem r_imul {x y : Int32} (hd : decode (xm_c M) pc = .ok (.imul, 1))  (k : Blk g M post (pc + 1) L (.int (x * y) :: st) h nx cu su) : Blk g M post pc L (.int y :: .int x :: st) h nx cu su := fun p e s m args below meth c C H locs ls hH hS hL => lv_imul C.1 C.2.1 hd  (k p e s m args below meth c C H locs ls hH hS hL)
theorem r_iand {x y : Int32} (hd : decode (xm_c M) pc = .ok (.iand, 1))  (k : Blk g M post (pc + 1) L (.int (x &&& y) :: st) h nx cu su) : Blk g M post pc L (.int y :: .int x :: st) h nx cu su := fun p e s m args below meth c C H locs ls hH hS hL => lv_iand C.1 C.2.1 hd  (k p e s m args below meth c C H locs ls hH hS hL)
theorem r_ior {x y : Int32} (hd : decode (xm_c M) pc = .ok (.ior, 1))  (k : Blk g M post (pc + 1) L (.int (x ||| y) :: st) h nx cu su) : Blk g M post pc L (.int y :: .int x :: st) h nx cu su := fun p e s m args below meth c C H locs ls hH hS hL => lv_ior C.1 C.2.1 hd  (k p e s m args below meth c C H locs ls hH hS hL)
theorem r_ixor {x y : Int32} (hd : decode (xm_c M) pc = .ok (.ixor, 1))  (k : Blk g M post (pc + 1) L (.int (x ^^^ y) :: st) h nx cu su) : Blk g M post pc L (.int y :: .int x :: st) h nx cu su := fun p e s m args below meth c C H locs ls hH hS hL => lv_ixor C.1 C.2.1 hd  (k p e s m args below meth c C H locs ls hH hS hL)
theorem r_ishl {x y : Int32} (hd : decode (xm_c M) pc = .ok (.ishl, 1))  (k : Blk g M post (pc + 1) L (.int (x <<< (y &&& 31)) :: st) h nx cu su) : Blk g M post pc L (.int y :: .int x :: st) h nx cu su := fun p e s m args below meth c C H locs ls hH hS hL => lv_ishl C.1 C.2.1 hd  (k p e s m args below meth c C H locs ls hH hS hL)
theorem r_ishr {x y : Int32} (hd : decode (xm_c M) pc = .ok (.ishr, 1))  (k : Blk g M post (pc + 1) L (.int (x >>> (y &&& 31)) :: st) h nx cu su) : Blk g M post pc L (.int y :: .int x :: st) h nx cu su := fun p e s m args below meth c C H locs ls hH hS hL => lv_ishr C.1 C.2.1 hd  (k p e s m args below meth c C H locs ls hH hS hL)
theorem r_idiv {x y : Int32} (hd : decode (xm_c M) pc = .ok (.idiv, 1)) (hne : ¬ y = 0) (k : Blk g M post (pc + 1) L (.int (x / y) :: st) h nx cu su) : Blk g M post pc L (.int y :: .int x :: st) h nx cu su := fun p e s m args below meth c C H locs ls hH hS hL => lv_idiv C.1 C.2.1 hd hne (k p e s m args below meth c C H locs ls hH hS hL)
theorem r_irem {x y : Int32} (hd : decode (xm_c M) pc = .ok (.irem, 1)) (hne : ¬ y = 0) (k : Blk g M post (pc + 1) L (.int (x - x / y * y) :: st) h nx cu su) : Blk g M post pc L (.int y :: .int x :: st) h nx cu su := fun p e s m args below meth c C H locs ls hH hS hL => lv_irem C.1 C.2.1 hd hne (k p e s m args below meth c C H locs ls hH hS hL)
theorem r_ladd {x y : Int64} (hd : decode (xm_c M) pc = .ok (.ladd, 1))  (k : Blk g M post (pc + 1) L (.long (x + y) :: st) h nx cu su) : Blk g M post pc L (.long y :: .long x :: st) h nx cu su := fun p e s m args below meth c C H locs ls hH hS hL => lv_ladd C.1 C.2.1 hd  (k p e s m args below meth c C H locs ls hH hS hL)
theorem r_lsub {x y : Int64} (hd : decode (xm_c M) pc = .ok (.lsub, 1))  (k : Blk g M post (pc + 1) L (.long (x - y) :: st) h nx cu su) : Blk g M post pc L (.long y :: .long x :: st) h nx cu su := fun p e s m args below meth c C H locs ls hH hS hL => lv_lsub C.1 C.2.1 hd  (k p e s m args below meth c C H locs ls hH hS hL)
theorem r_lmul {x y : Int64} (hd : decode (xm_c M) pc = .ok (.lmul, 1))  (k : Blk g M post (pc + 1) L (.long (x * y) :: st) h nx cu su) : Blk g M post pc L (.long y :: .long x :: st) h nx cu su := fun p e s m args below meth c C H locs ls hH hS hL => lv_lmul C.1 C.2.1 hd  (k p e s m args below meth c C H locs ls hH hS hL)
theorem r_land {x y : Int64} (hd : decode (xm_c M) pc = .ok (.land, 1))  (k : Blk g M post (pc + 1) L (.long (x &&& y) :: st) h nx cu su) : Blk g M post pc L (.long y :: .long x :: st) h nx cu su := fun p e s m args below meth c C H locs ls hH hS hL => lv_land C.1 C.2.1 hd  (k p e s m args below meth c C H locs ls hH hS hL)
theorem r_lor {x y : Int64} (hd : decode (xm_c M) pc = .ok (.lor, 1))  (k : Blk g M post (pc + 1) L (.long (x ||| y) :: st) h nx cu su) : Blk g M post pc L (.long y :: .long x :: st) h nx cu su := fun p e s m args below meth c C H locs ls hH hS hL => lv_lor C.1 C.2.1 hd  (k p e s m args below meth c C H locs ls hH hS hL)
theorem r_ldiv {x y : Int64} (hd : decode (xm_c M) pc = .ok (.ldiv, 1)) (hne : ¬ y = 0) (k : Blk g M post (pc + 1) L (.long (x / y) :: st) h nx cu su) : Blk g M post pc L (.long y :: .long x :: st) h nx cu su := fun p e s m args below meth c C H locs ls hH hS hL => lv_ldiv C.1 C.2.1 hd hne (k p e s m args below meth c C H locs ls hH hS hL)
theorem r_lrem {x y : Int64} (hd : decode (xm_c M) pc = .ok (.lrem, 1)) (hne : ¬ y = 0) (k : Blk g M post (pc + 1) L (.long (x - x / y * y) :: st) h nx cu su) : Blk g M post pc L (.long y :: .long x :: st) h nx cu su := fun p e s m args below meth c C H locs ls hH hS hL => lv_lrem C.1 C.2.1 hd hne (k p e s m args below meth c C H locs ls hH hS hL)
theorem r_ineg {x : Int32} (hd : decode (xm_c M) pc = .ok (.ineg, 1))  (k : Blk g M post (pc + 1) L (.int (-x) :: st) h nx cu su) : Blk g M post pc L (.int x :: st) h nx cu su := fun p e s m args below meth c C H locs ls hH hS hL => lv_ineg C.1 C.2.1 hd  (k p e s m args below meth c C H locs ls hH hS hL)
theorem r_lneg {x : Int64} (hd : decode (xm_c M) pc = .ok (.lneg, 1))  (k : Blk g M post (pc + 1) L (.long (-x) :: st) h nx cu su) : Blk g M post pc L (.long x :: st) h nx cu su := fun p e s m args below meth c C H locs ls hH hS hL => lv_lneg C.1 C.2.1 hd  (k p e s m args below meth c C H locs ls hH hS hL)
theorem r_i2l {x : Int32} (hd : decode (xm_c M) pc = .ok (.i2l, 1))  (k : Blk g M post (pc + 1) L (.long (x.toInt64) :: st) h nx cu su) : Blk g M post pc L (.int x :: st) h nx cu su := fun p e s m args below meth c C H locs ls hH hS hL => lv_i2l C.1 C.2.1 hd rfl (k p e s m args below meth c C H locs ls hH hS hL)
theorem r_l2i {x : Int64} (hd : decode (xm_c M) pc = .ok (.l2i, 1))  (k : Blk g M post (pc + 1) L (.int (x.toInt32) :: st) h nx cu su) : Blk g M post pc L (.long x :: st) h nx cu su := fun p e s m args below meth c C H locs ls hH hS hL => lv_l2i C.1 C.2.1 hd rfl (k p e s m args below meth c C H locs ls hH hS hL)
theorem r_i2c {x : Int32} (hd : decode (xm_c M) pc = .ok (.i2c, 1))  (k : Blk g M post (pc + 1) L (.int ((x.toUInt32 % 65536).toInt32) :: st) h nx cu su) : Blk g M post pc L (.int x :: st) h nx cu su := fun p e s m args below meth c C H locs ls hH hS hL => lv_i2c C.1 C.2.1 hd rfl (k p e s m args below meth c C H locs ls hH hS hL)
theorem r_lushr {x : Int64} {y : Int32} (hd : decode (xm_c M) pc = .ok (.lushr, 1))  (k : Blk g M post (pc + 1) L (.long ((x.toUInt64 >>> (y.toInt64.toUInt64 &&& Int64.toUInt64 63)).toInt64) :: st) h nx cu su) : Blk g M post pc L (.int y :: .long x :: st) h nx cu su := fun p e s m args below meth c C H locs ls hH hS hL => lv_lushr C.1 C.2.1 hd rfl (k p e s m args below meth c C H locs ls hH hS hL)
theorem r_lshl {x : Int64} {y : Int32} (hd : decode (xm_c M) pc = .ok (.lshl, 1))  (k : Blk g M post (pc + 1) L (.long (x <<< (y.toInt64 &&& 63)) :: st) h nx cu su) : Blk g M post pc L (.int y :: .long x :: st) h nx cu su := fun p e s m args below meth c C H locs ls hH hS hL => lv_lshl C.1 C.2.1 hd rfl (k p e s m args below meth c C H locs ls hH hS hL)
theorem r_lcmp {x y : Int64} (hd : decode (xm_c M) pc = .ok (.lcmp, 1))  (k : Blk g M post (pc + 1) L (.int (lg_cmp x y) :: st) h nx cu su) : Blk g M post pc L (.long y :: .long x :: st) h nx cu su := fun p e s m args below meth c C H locs ls hH hS hL => W.lcmp C.1 C.2.1 hd  (k p e s m args below meth c C H locs ls hH hS hL)
theorem r_dup {va : Value} (hd : decode (xm_c M) pc = .ok (.dup, 1)) (hva : va.category = 1) (k : Blk g M post (pc + 1) L (va :: va :: st) h nx cu su) : Blk g M post pc L (va :: st) h nx cu su := fun p e s m args below meth c C H locs ls hH hS hL => lv_dup C.1 C.2.1 hd hva (k p e s m args below meth c C H locs ls hH hS hL)
theorem r_pop {va : Value} (hd : decode (xm_c M) pc = .ok (.pop, 1)) (hva : va.category = 1) (k : Blk g M post (pc + 1) L (st) h nx cu su) : Blk g M post pc L (va :: st) h nx cu su := fun p e s m args below meth c C H locs ls hH hS hL => lv_pop C.1 C.2.1 hd hva (k p e s m args below meth c C H locs ls hH hS hL)
theorem r_dup_x1 {va vb : Value} (hd : decode (xm_c M) pc = .ok (.dup_x1, 1)) (hva : va.category = 1) (hvb : vb.category = 1) (k : Blk g M post (pc + 1) L (va :: vb :: va :: st) h nx cu su) : Blk g M post pc L (va :: vb :: st) h nx cu su := fun p e s m args below meth c C H locs ls hH hS hL => lv_dup_x1 C.1 C.2.1 hd hva hvb (k p e s m args below meth c C H locs ls hH hS hL)
theorem r_dup_x2 {va vb vd : Value} (hd : decode (xm_c M) pc = .ok (.dup_x2, 1)) (hva : va.category = 1) (hvb : vb.category = 1) (hvd : vd.category = 1) (k : Blk g M post (pc + 1) L (va :: vb :: vd :: va :: st) h nx cu su) : Blk g M post pc L (va :: vb :: vd :: st) h nx cu su := fun p e s m args below meth c C H locs ls hH hS hL => lv_dup_x2 C.1 C.2.1 hd hva hvb hvd (k p e s m args below meth c C H locs ls hH hS hL)
theorem r_dup2_11 {va vb : Value} (hd : decode (xm_c M) pc = .ok (.dup2, 1)) (hva : va.category = 1) (hvb : vb.category = 1) (k : Blk g M post (pc + 1) L (va :: vb :: va :: vb :: st) h nx cu su) : Blk g M post pc L (va :: vb :: st) h nx cu su := fun p e s m args below meth c C H locs ls hH hS hL => lv_dup2_11 C.1 C.2.1 hd hva hvb (k p e s m args below meth c C H locs ls hH hS hL)
theorem r_dup2_2 {va : Value} (hd : decode (xm_c M) pc = .ok (.dup2, 1)) (hva : va.category = 2) (k : Blk g M post (pc + 1) L (va :: va :: st) h nx cu su) : Blk g M post pc L (va :: st) h nx cu su := fun p e s m args below meth c C H locs ls hH hS hL => lv_dup2_2 C.1 C.2.1 hd hva (k p e s m args below meth c C H locs ls hH hS hL)
theorem r_iload_n (j : Nat) {kk : Fin 4} {i : Nat} {x : Int32} (hd : decode (xm_c M) pc = .ok (.iload_n kk, 1)) (hi : (kk : Nat) = i) (hl : L[j]? = some (i, .int x)) (k : Blk g M post (pc + 1) L (.int x :: st) h nx cu su) : Blk g M post pc L st h nx cu su := fun p e s m args below meth c C H locs ls hH hS hL => lv_iload_n C.1 C.2.1 hd hi (lv_at hL j hl) (k p e s m args below meth c C H locs ls hH hS hL)
theorem r_iload (j : Nat) {i : Nat} {x : Int32} (hd : decode (xm_c M) pc = .ok (.iload i, 2)) (hl : L[j]? = some (i, .int x)) (k : Blk g M post (pc + 2) L (.int x :: st) h nx cu su) : Blk g M post pc L st h nx cu su := fun p e s m args below meth c C H locs ls hH hS hL => lv_iload C.1 C.2.1 hd (lv_at hL j hl) (k p e s m args below meth c C H locs ls hH hS hL)
theorem r_lload_n (j : Nat) {kk : Fin 4} {i : Nat} {x : Int64} (hd : decode (xm_c M) pc = .ok (.lload_n kk, 1)) (hi : (kk : Nat) = i) (hl : L[j]? = some (i, .long x)) (k : Blk g M post (pc + 1) L (.long x :: st) h nx cu su) : Blk g M post pc L st h nx cu su := fun p e s m args below meth c C H locs ls hH hS hL => lv_lload_n C.1 C.2.1 hd hi (lv_at hL j hl) (k p e s m args below meth c C H locs ls hH hS hL)
theorem r_lload (j : Nat) {i : Nat} {x : Int64} (hd : decode (xm_c M) pc = .ok (.lload i, 2)) (hl : L[j]? = some (i, .long x)) (k : Blk g M post (pc + 2) L (.long x :: st) h nx cu su) : Blk g M post pc L st h nx cu su := fun p e s m args below meth c C H locs ls hH hS hL => lv_lload C.1 C.2.1 hd (lv_at hL j hl) (k p e s m args below meth c C H locs ls hH hS hL)
theorem r_aload_n (j : Nat) {kk : Fin 4} {i : Nat} {x : Nat} (hd : decode (xm_c M) pc = .ok (.aload_n kk, 1)) (hi : (kk : Nat) = i) (hl : L[j]? = some (i, .ref x)) (k : Blk g M post (pc + 1) L (.ref x :: st) h nx cu su) : Blk g M post pc L st h nx cu su := fun p e s m args below meth c C H locs ls hH hS hL => lv_aload_n C.1 C.2.1 hd hi (lv_at hL j hl) (k p e s m args below meth c C H locs ls hH hS hL)
theorem r_aload (j : Nat) {i : Nat} {x : Nat} (hd : decode (xm_c M) pc = .ok (.aload i, 2)) (hl : L[j]? = some (i, .ref x)) (k : Blk g M post (pc + 2) L (.ref x :: st) h nx cu su) : Blk g M post pc L st h nx cu su := fun p e s m args below meth c C H locs ls hH hS hL => lv_aload C.1 C.2.1 hd (lv_at hL j hl) (k p e s m args below meth c C H locs ls hH hS hL)
theorem r_istore_n {kk : Fin 4} {i : Nat} {x : Int32} {L' : List (Nat × Value)} (hd : decode (xm_c M) pc = .ok (.istore_n kk, 1)) (hi : (kk : Nat) = i) (hn : i < xm_n M) (hl : (i, Value.int x) :: L.filter (fun q => !(q.1 == i) && !(q.1 + 1 == i && q.2.category == 2)) = L') (k : Blk g M post (pc + 1) L' st h nx cu su) : Blk g M post pc L (Value.int x :: st) h nx cu su := fun p e s m args below meth c C H locs ls hH hS hL => lv_istore_n C.1 C.2.1 hd hi hL hn hl (fun ls' hL' => k p e s m args below meth c C H locs ls' hH hS hL')
theorem r_istore {i : Nat} {x : Int32} {L' : List (Nat × Value)} (hd : decode (xm_c M) pc = .ok (.istore i, 2)) (hn : i < xm_n M) (hl : (i, Value.int x) :: L.filter (fun q => !(q.1 == i) && !(q.1 + 1 == i && q.2.category == 2)) = L') (k : Blk g M post (pc + 2) L' st h nx cu su) : Blk g M post pc L (Value.int x :: st) h nx cu su := fun p e s m args below meth c C H locs ls hH hS hL => lv_istore C.1 C.2.1 hd hL hn hl (fun ls' hL' => k p e s m args below meth c C H locs ls' hH hS hL')
theorem r_lstore_n {kk : Fin 4} {i : Nat} {x : Int64} {L' : List (Nat × Value)} (hd : decode (xm_c M) pc = .ok (.lstore_n kk, 1)) (hi : (kk : Nat) = i) (hn : i + 1 < xm_n M) (hl : (i, Value.long x) :: L.filter (fun q => !(q.1 == i) && (!(q.1 == i + 1) && !(q.1 + 1 == i && q.2.category == 2))) = L') (k : Blk g M post (pc + 1) L' st h nx cu su) : Blk g M post pc L (Value.long x :: st) h nx cu su := fun p e s m args below meth c C H locs ls hH hS hL => lv_lstore_n C.1 C.2.1 hd hi hL hn hl (fun ls' hL' => k p e s m args below meth c C H locs ls' hH hS hL')
theorem r_lstore {i : Nat} {x : Int64} {L' : List (Nat × Value)} (hd : decode (xm_c M) pc = .ok (.lstore i, 2)) (hn : i + 1 < xm_n M) (hl : (i, Value.long x) :: L.filter (fun q => !(q.1 == i) && (!(q.1 == i + 1) && !(q.1 + 1 == i && q.2.category == 2))) = L') (k : Blk g M post (pc + 2) L' st h nx cu su) : Blk g M post pc L (Value.long x :: st) h nx cu su := fun p e s m args below meth c C H locs ls hH hS hL => lv_lstore C.1 C.2.1 hd hL hn hl (fun ls' hL' => k p e s m args below meth c C H locs ls' hH hS hL')
theorem r_astore_n {kk : Fin 4} {i : Nat} {x : Nat} {L' : List (Nat × Value)} (hd : decode (xm_c M) pc = .ok (.astore_n kk, 1)) (hi : (kk : Nat) = i) (hn : i < xm_n M) (hl : (i, Value.ref x) :: L.filter (fun q => !(q.1 == i) && !(q.1 + 1 == i && q.2.category == 2)) = L') (k : Blk g M post (pc + 1) L' st h nx cu su) : Blk g M post pc L (Value.ref x :: st) h nx cu su := fun p e s m args below meth c C H locs ls hH hS hL => lv_astore_n C.1 C.2.1 hd hi hL hn hl (fun ls' hL' => k p e s m args below meth c C H locs ls' hH hS hL')
theorem r_astore {i : Nat} {x : Nat} {L' : List (Nat × Value)} (hd : decode (xm_c M) pc = .ok (.astore i, 2)) (hn : i < xm_n M) (hl : (i, Value.ref x) :: L.filter (fun q => !(q.1 == i) && !(q.1 + 1 == i && q.2.category == 2)) = L') (k : Blk g M post (pc + 2) L' st h nx cu su) : Blk g M post pc L (Value.ref x :: st) h nx cu su := fun p e s m args below meth c C H locs ls hH hS hL => lv_astore C.1 C.2.1 hd hL hn hl (fun ls' hL' => k p e s m args below meth c C H locs ls' hH hS hL')
theorem r_iinc (j : Nat) {i : Nat} {n : Int} {x v : Int32} {L' : List (Nat × Value)} (hd : decode (xm_c M) pc = .ok (.iinc i n, 3)) (hk : L[j]? = some (i, .int x)) (hv : Int32.ofInt n = v) (hn : i < xm_n M) (hl : (i, Value.int (x + v)) :: L.filter (fun q => !(q.1 == i) && !(q.1 + 1 == i && q.2.category == 2)) = L') (k : Blk g M post (pc + 3) L' st h nx cu su) : Blk g M post pc L st h nx cu su := fun p e s m args below meth c C H locs ls hH hS hL => lv_iinc (v := x + v) C.1 C.2.1 hd hL hk (by rw [hv]) hn hl (fun ls' hL' => k p e s m args below meth c C H locs ls' hH hS hL')
theorem r_if_eq {x : Int32} {off : Int} {tgt : Nat} (hd : decode (xm_c M) pc = .ok (.ifCond .eq off, 3)) (ht : (pc : Int) + off = (tgt : Int)) (kt : x = 0 → Blk g M post tgt L st h nx cu su) (kf : ¬ x = 0 → Blk g M post (pc + 3) L st h nx cu su) : Blk g M post pc L (.int x :: st) h nx cu su := fun p e s m args below meth c C H locs ls hH hS hL => lv_if_eq C.1 C.2.1 hd ht (fun q => kt q p e s m args below meth c C H locs ls hH hS hL) (fun q => kf q p e s m args below meth c C H locs ls hH hS hL)
theorem r_icmp_eq {x y : Int32} {off : Int} {tgt : Nat} (hd : decode (xm_c M) pc = .ok (.if_icmp .eq off, 3)) (ht : (pc : Int) + off = (tgt : Int)) (kt : x = y → Blk g M post tgt L st h nx cu su) (kf : ¬ x = y → Blk g M post (pc + 3) L st h nx cu su) : Blk g M post pc L (.int y :: .int x :: st) h nx cu su := fun p e s m args below meth c C H locs ls hH hS hL => lv_icmp_eq C.1 C.2.1 hd ht (fun q => kt q p e s m args below meth c C H locs ls hH hS hL) (fun q => kf q p e s m args below meth c C H locs ls hH hS hL)
theorem r_if_ne {x : Int32} {off : Int} {tgt : Nat} (hd : decode (xm_c M) pc = .ok (.ifCond .ne off, 3)) (ht : (pc : Int) + off = (tgt : Int)) (kt : ¬ x = 0 → Blk g M post tgt L st h nx cu su) (kf : x = 0 → Blk g M post (pc + 3) L st h nx cu su) : Blk g M post pc L (.int x :: st) h nx cu su := fun p e s m args below meth c C H locs ls hH hS hL => lv_if_ne C.1 C.2.1 hd ht (fun q => kt q p e s m args below meth c C H locs ls hH hS hL) (fun q => kf q p e s m args below meth c C H locs ls hH hS hL)
theorem r_icmp_ne {x y : Int32} {off : Int} {tgt : Nat} (hd : decode (xm_c M) pc = .ok (.if_icmp .ne off, 3)) (ht : (pc : Int) + off = (tgt : Int)) (kt : ¬ x = y → Blk g M post tgt L st h nx cu su) (kf : x = y → Blk g M post (pc + 3) L st h nx cu su) : Blk g M post pc L (.int y :: .int x :: st) h nx cu su := fun p e s m args below meth c C H locs ls hH hS hL => lv_icmp_ne C.1 C.2.1 hd ht (fun q => kt q p e s m args below meth c C H locs ls hH hS hL) (fun q => kf q p e s m args below meth c C H locs ls hH hS hL)
theorem r_if_lt {x : Int32} {off : Int} {tgt : Nat} (hd : decode (xm_c M) pc = .ok (.ifCond .lt off, 3)) (ht : (pc : Int) + off = (tgt : Int)) (kt : x < 0 → Blk g M post tgt L st h nx cu su) (kf : ¬ x < 0 → Blk g M post (pc + 3) L st h nx cu su) : Blk g M post pc L (.int x :: st) h nx cu su := fun p e s m args below meth c C H locs ls hH hS hL => lv_if_lt C.1 C.2.1 hd ht (fun q => kt q p e s m args below meth c C H locs ls hH hS hL) (fun q => kf q p e s m args below meth c C H locs ls hH hS hL)
theorem r_icmp_lt {x y : Int32} {off : Int} {tgt : Nat} (hd : decode (xm_c M) pc = .ok (.if_icmp .lt off, 3)) (ht : (pc : Int) + off = (tgt : Int)) (kt : x < y → Blk g M post tgt L st h nx cu su) (kf : ¬ x < y → Blk g M post (pc + 3) L st h nx cu su) : Blk g M post pc L (.int y :: .int x :: st) h nx cu su := fun p e s m args below meth c C H locs ls hH hS hL => lv_icmp_lt C.1 C.2.1 hd ht (fun q => kt q p e s m args below meth c C H locs ls hH hS hL) (fun q => kf q p e s m args below meth c C H locs ls hH hS hL)
theorem r_if_ge {x : Int32} {off : Int} {tgt : Nat} (hd : decode (xm_c M) pc = .ok (.ifCond .ge off, 3)) (ht : (pc : Int) + off = (tgt : Int)) (kt : 0 ≤ x → Blk g M post tgt L st h nx cu su) (kf : ¬ 0 ≤ x → Blk g M post (pc + 3) L st h nx cu su) : Blk g M post pc L (.int x :: st) h nx cu su := fun p e s m args below meth c C H locs ls hH hS hL => lv_if_ge C.1 C.2.1 hd ht (fun q => kt q p e s m args below meth c C H locs ls hH hS hL) (fun q => kf q p e s m args below meth c C H locs ls hH hS hL)
theorem r_icmp_ge {x y : Int32} {off : Int} {tgt : Nat} (hd : decode (xm_c M) pc = .ok (.if_icmp .ge off, 3)) (ht : (pc : Int) + off = (tgt : Int)) (kt : y ≤ x → Blk g M post tgt L st h nx cu su) (kf : ¬ y ≤ x → Blk g M post (pc + 3) L st h nx cu su) : Blk g M post pc L (.int y :: .int x :: st) h nx cu su := fun p e s m args below meth c C H locs ls hH hS hL => lv_icmp_ge C.1 C.2.1 hd ht (fun q => kt q p e s m args below meth c C H locs ls hH hS hL) (fun q => kf q p e s m args below meth c C H locs ls hH hS hL)
theorem r_if_gt {x : Int32} {off : Int} {tgt : Nat} (hd : decode (xm_c M) pc = .ok (.ifCond .gt off, 3)) (ht : (pc : Int) + off = (tgt : Int)) (kt : 0 < x → Blk g M post tgt L st h nx cu su) (kf : ¬ 0 < x → Blk g M post (pc + 3) L st h nx cu su) : Blk g M post pc L (.int x :: st) h nx cu su := fun p e s m args below meth c C H locs ls hH hS hL => lv_if_gt C.1 C.2.1 hd ht (fun q => kt q p e s m args below meth c C H locs ls hH hS hL) (fun q => kf q p e s m args below meth c C H locs ls hH hS hL)
theorem r_icmp_gt {x y : Int32} {off : Int} {tgt : Nat} (hd : decode (xm_c M) pc = .ok (.if_icmp .gt off, 3)) (ht : (pc : Int) + off = (tgt : Int)) (kt : y < x → Blk g M post tgt L st h nx cu su) (kf : ¬ y < x → Blk g M post (pc + 3) L st h nx cu su) : Blk g M post pc L (.int y :: .int x :: st) h nx cu su := fun p e s m args below meth c C H locs ls hH hS hL => lv_icmp_gt C.1 C.2.1 hd ht (fun q => kt q p e s m args below meth c C H locs ls hH hS hL) (fun q => kf q p e s m args below meth c C H locs ls hH hS hL)
theorem r_if_le {x : Int32} {off : Int} {tgt : Nat} (hd : decode (xm_c M) pc = .ok (.ifCond .le off, 3)) (ht : (pc : Int) + off = (tgt : Int)) (kt : x ≤ 0 → Blk g M post tgt L st h nx cu su) (kf : ¬ x ≤ 0 → Blk g M post (pc + 3) L st h nx cu su) : Blk g M post pc L (.int x :: st) h nx cu su := fun p e s m args below meth c C H locs ls hH hS hL => lv_if_le C.1 C.2.1 hd ht (fun q => kt q p e s m args below meth c C H locs ls hH hS hL) (fun q => kf q p e s m args below meth c C H locs ls hH hS hL)
theorem r_icmp_le {x y : Int32} {off : Int} {tgt : Nat} (hd : decode (xm_c M) pc = .ok (.if_icmp .le off, 3)) (ht : (pc : Int) + off = (tgt : Int)) (kt : x ≤ y → Blk g M post tgt L st h nx cu su) (kf : ¬ x ≤ y → Blk g M post (pc + 3) L st h nx cu su) : Blk g M post pc L (.int y :: .int x :: st) h nx cu su := fun p e s m args below meth c C H locs ls hH hS hL => lv_icmp_le C.1 C.2.1 hd ht (fun q => kt q p e s m args below meth c C H locs ls hH hS hL) (fun q => kf q p e s m args below meth c C H locs ls hH hS hL)
theorem r_goto {off : Int} {tgt : Nat} (hd : decode (xm_c M) pc = .ok (.goto off, 3)) (ht : (pc : Int) + off = (tgt : Int)) (k : Blk g M post tgt L st h nx cu su) : Blk g M post pc L st h nx cu su := fun p e s m args below meth c C H locs ls hH hS hL => lv_goto C.1 C.2.1 hd ht (k p e s m args below meth c C H locs ls hH hS hL)
end R1

section R2
variable {g : xG} {M : xM} {post : xPost} {pc : Nat} {L : List (Nat × Value)} {st : List Value} {h : xHp} {nx cu su : Nat}
theorem xw {s : State} {args : Array Value} (C : ∀ w ∈ lw_gd, w.before args s = true) {w : Cond} (h : w ∈ lw_gd) : w.before args s = true := C w h
theorem r_ldc {idx : Nat} {v : Int32} (hw : Cond.constant (xm_y M).cls idx v ∈ lw_gd) (hd : decode (xm_c M) pc = .ok (.ldc idx, 2)) (k : Blk g M post (pc + 2) L (.int v :: st) h nx cu su) : Blk g M post pc L st h nx cu su :=
  fun p e s m args below meth c C H locs ls hH hS hL => lv_ldc C.1 C.2.1 C.2.2.2.2.2.2.1 (C.2.2.2.2.2.2.2.1 _ hw) hd (k p e s m args below meth c C H locs ls hH hS hL)
theorem r_ldc2 {idx : Nat} {v : Int64} (hw : Cond.constantLong (xm_y M).cls idx v ∈ lw_gd) (hd : decode (xm_c M) pc = .ok (.ldc2_w idx, 3)) (k : Blk g M post (pc + 3) L (.long v :: st) h nx cu su) : Blk g M post pc L st h nx cu su :=
  fun p e s m args below meth c C H locs ls hH hS hL => lv_ldc2 C.1 C.2.1 C.2.2.2.2.2.2.1 (C.2.2.2.2.2.2.2.1 _ hw) hd (k p e s m args below meth c C H locs ls hH hS hL)
/-! answers -/
theorem r_iret {v : Int32} (hd : decode (xm_c M) pc = .ok (.ireturn, 1)) (hr : xm_t M = some .int) (h1 : cu ≤ (xm_r M).cells) (h2 : su ≤ (xm_r M).slots) (hp : post (some (.int v)) h nx) : Blk g M post pc L [.int v] h nx cu su :=
  fun p e s m args below meth c C H locs ls hH hS hL => W.widen h1 h2 (W.iret C.1 C.2.1 (C.2.2.2.1.trans hr) (fun t ht _ => ⟨⟨_, h, nx, rfl, hp, by rw [ht]; exact hH⟩, hS.F ht⟩) hS.2.2 hd C.2.2.2.2.1)
theorem r_zret {v : Int32} {ty : FieldType} (hd : decode (xm_c M) pc = .ok (.ireturn, 1)) (hr : xm_t M = some ty) (hn : narrow ty (.int v) = .int v) (h1 : cu ≤ (xm_r M).cells) (h2 : su ≤ (xm_r M).slots) (hp : post (some (.int v)) h nx) : Blk g M post pc L [.int v] h nx cu su :=
  fun p e s m args below meth c C H locs ls hH hS hL => W.widen h1 h2 (W.zret C.1 C.2.1 (C.2.2.2.1.trans hr) hn (fun t ht _ => ⟨⟨_, h, nx, rfl, hp, by rw [ht]; exact hH⟩, hS.F ht⟩) hS.2.2 hd C.2.2.2.2.1)
theorem r_lret {v : Int64} (hd : decode (xm_c M) pc = .ok (.lreturn, 1)) (hr : xm_t M = some .long) (h1 : cu ≤ (xm_r M).cells) (h2 : su ≤ (xm_r M).slots) (hp : post (some (.long v)) h nx) : Blk g M post pc L [.long v] h nx cu su :=
  fun p e s m args below meth c C H locs ls hH hS hL => W.widen h1 h2 (W.lret C.1 C.2.1 (C.2.2.2.1.trans hr) (fun t ht _ => ⟨⟨_, h, nx, rfl, hp, by rw [ht]; exact hH⟩, hS.F ht⟩) hS.2.2 hd C.2.2.2.2.1)
theorem r_vret (hd : decode (xm_c M) pc = .ok (.return_, 1)) (hr : xm_t M = none) (h1 : cu ≤ (xm_r M).cells) (h2 : su ≤ (xm_r M).slots) (hp : post none h nx) : Blk g M post pc L [] h nx cu su :=
  fun p e s m args below meth c C H locs ls hH hS hL => W.widen h1 h2 (W.vret C.1 C.2.1 (C.2.2.2.1.trans hr) (fun t ht _ => ⟨⟨_, h, nx, rfl, hp, by rw [ht]; exact hH⟩, hS.F ht⟩) hS.2.2 hd C.2.2.2.2.1)
theorem r_aret {v : Nat} {n : String} (hd : decode (xm_c M) pc = .ok (.areturn, 1)) (hr : xm_t M = some (.object n)) (h1 : cu ≤ (xm_r M).cells) (h2 : su ≤ (xm_r M).slots) (hp : post (some (.ref v)) h nx) : Blk g M post pc L [.ref v] h nx cu su :=
  fun p e s m args below meth c C H locs ls hH hS hL => W.widen h1 h2 (W.aret C.1 C.2.1 (C.2.2.2.1.trans hr) (Or.inl ⟨n, rfl⟩) (Or.inr ⟨v, rfl⟩) (fun t ht _ => ⟨⟨_, h, nx, rfl, hp, by rw [ht]; exact hH⟩, hS.F ht⟩) hS.2.2 hd C.2.2.2.2.1)
/-! fields -/
theorem xat_P {a : Nat} {e : xE} {H : Heap} (hH : xH g h nx H) (ha : h a = some e) : va_P (gD g) vwCl [(a, xe g e)] H := by
  intro k q hq
  match k, hq with
  | 0, hq => cases hq; exact (hH.2 a e ha).2
  | k + 1, hq => simp at hq
theorem r_getf {a ci kf idx : Nat} {fs : List Value} {v : Value} {C0 : String} {T : u_T} {N : Nat} (hc : vwCl[ci]? = some (C0, T, N)) (hin : ∀ w ∈ u_ws C0 T N, w ∈ lw_gd) (hk : kf < N) (hlink : Cond.fieldLink (xm_y M).cls idx (T kf).1 (T kf).2.1 (T kf).2.2.1 ∈ lw_gd) (hd : decode (xm_c M) pc = .ok (.getfield idx, 3)) (ha : h a = some (xo ci fs)) (hv : fs[kf]? = some v) (k : Blk g M post (pc + 3) L (v :: st) h nx cu su) : Blk g M post pc L (.ref a :: st) h nx cu su :=
  fun p e s m args below meth c C H locs ls hH hS hL => va_get C.1 C.2.1 C.2.2.2.2.2.2.2.1 hin C.2.2.2.2.2.2.1 C.2.2.2.2.2.2.2.2.1.1.1 (xat_P hH ha) 0 rfl hc kf hk (C.2.2.2.2.2.2.2.1 _ hlink) (fun _ q => q) hv hd (k p e s m args below meth c C H locs ls hH hS hL)
theorem r_putf {a ci kf idx : Nat} {fs : List Value} {v : Value} {C0 : String} {T : u_T} {N : Nat} {ty0 : Nat → FieldType} {ty : FieldType} (hc : vwCl[ci]? = some (C0, T, N)) (hin : ∀ w ∈ u_ws C0 T N, w ∈ lw_gd) (hty : ∀ k, k < N → parseFieldDescriptor (T k).2.2.1 = some (ty0 k)) (hnm : ∀ a, a < N → ∀ b, b < N → a ≠ b → (T a).2.1 ≠ (T b).2.1) (hk : kf < N) (hlink : Cond.fieldLink (xm_y M).cls idx (T kf).1 (T kf).2.1 (T kf).2.2.1 ∈ lw_gd) (hfin : (T kf).2.2.2 = false) (hdd : parseFieldDescriptor (T kf).2.2.1 = some ty) (hd : decode (xm_c M) pc = .ok (.putfield idx, 3)) (ha : h a = some (xo ci fs)) (hl : kf < fs.length) (hn : narrow ty v = v) (hfit : fits ty v = true) (k : Blk g M post (pc + 3) L st (xup h a (xo ci (fs.set kf v))) nx cu su) : Blk g M post pc L (v :: .ref a :: st) h nx cu su := by
  intro p e s m args below meth c C H locs ls hH hS hL
  obtain ⟨q0, hq0⟩ := xl_in (g := g) ha (hH.lt ha)
  have hz : ∀ H1 : Heap, H1.size = H.size → H1.size = nx := fun H1 q => q.trans hH.1
  have hap := va_apart (own := (xm_y M).cls) C.2.2.2.2.2.2.2.1 hin ty0 hty hnm C.2.2.2.2.2.2.2.2.1.1.1 hc
  obtain ⟨r, h1, cell, q1, q2, q3, q4⟩ := (hH.2 a _ ha).2
  have hr : r = (C0, T, N) := Option.some.inj (h1.symm.trans hc)
  subst hr
  obtain ⟨hSl, hfc, kC, hkC, hkind⟩ := C.2.2.2.2.2.2.2.2.1.1.1.1 ci _ hc
  obtain ⟨cf, kf2, fi, f, hi, hsl⟩ := hSl kf hk
  have hlay := C.2.2.2.2.2.2.2.1 _ (hin _ (u_in_lay hk))
  unfold u_lay at hlay
  rw [if_neg (by rw [hfin]; decide)] at hlay
  have hst := (u_facts hfc hkC (u_lays C.2.2.2.2.2.2.2.1 hin hk) hi).1
  have h6 := u_store hfc hkC hkind hlay hi hdd hn hfit
  refine W.putK C.1 C.2.1 (f := f) ⟨C.2.2.2.2.2.2.1, C.2.2.2.2.2.2.2.1 _ hlink, ⟨_, _, _, hi⟩, hst⟩ (by rw [q2]; exact h6) q1 q3 (by rw [hsl]; exact k2_hasslot (q4 kf hk)) rfl rfl hd fun H' e1 e2 e3 => ?_
  rw [hsl] at e1 ⊢
  exact k p e s m args below meth c C H' _ ls (hH.set (hH.2 a _ ha).1 e2 e3 ⟨_, hc, t_OB.to (V := updV (vp_V fs) kf v) ⟨_, e1, q2, q3, t_set q4 hap hk v⟩ (fun j _ => vp_updV_set hl v j)⟩) (hS.put e2 e3 (hH.2 a _ ha).1) hL
theorem r_putF {a ci kf idx : Nat} {fs : List Value} {v : Value} {C0 : String} {T : u_T} {N : Nat} {ty0 : Nat → FieldType} {ty : FieldType} (hc : vwCl[ci]? = some (C0, T, N)) (hin : ∀ w ∈ u_ws C0 T N, w ∈ lw_gd) (hty : ∀ k, k < N → parseFieldDescriptor (T k).2.2.1 = some (ty0 k)) (hnm : ∀ a, a < N → ∀ b, b < N → a ≠ b → (T a).2.1 ≠ (T b).2.1) (hk : kf < N) (hlink : Cond.fieldLink (xm_y M).cls idx (T kf).1 (T kf).2.1 (T kf).2.2.1 ∈ lw_gd) (hfin : (T kf).2.2.2 = true) (hin2 : (xm_y M).name = "<init>") (hdecl : (T kf).1 = (xm_y M).cls) (hdd : parseFieldDescriptor (T kf).2.2.1 = some ty) (hd : decode (xm_c M) pc = .ok (.putfield idx, 3)) (ha : h a = some (xo ci fs)) (hl : kf < fs.length) (hn : narrow ty v = v) (hfit : fits ty v = true) (k : Blk g M post (pc + 3) L st (xup h a (xo ci (fs.set kf v))) nx cu su) : Blk g M post pc L (v :: .ref a :: st) h nx cu su := by
  intro p e s m args below meth c C H locs ls hH hS hL
  have hap := va_apart (own := (xm_y M).cls) C.2.2.2.2.2.2.2.1 hin ty0 hty hnm C.2.2.2.2.2.2.2.2.1.1.1 hc
  obtain ⟨r, h1, cell, q1, q2, q3, q4⟩ := (hH.2 a _ ha).2
  have hr : r = (C0, T, N) := Option.some.inj (h1.symm.trans hc)
  subst hr
  obtain ⟨hSl, hfc, kC, hkC, hkind⟩ := C.2.2.2.2.2.2.2.2.1.1.1.1 ci _ hc
  obtain ⟨cf, kf2, fi, f, hi, hsl⟩ := hSl kf hk
  have hlay := C.2.2.2.2.2.2.2.1 _ (hin _ (u_in_lay hk))
  unfold u_lay at hlay
  rw [if_pos hfin] at hlay
  have hst := (u_facts hfc hkC (u_lays C.2.2.2.2.2.2.2.1 hin hk) hi).1
  have hcf : m.cls = cf := by
    obtain ⟨_, _, c', _, _, _, -, -, hf', -, -, -, hown2, -⟩ := Cond.laysFinal_spec hlay
    have e1 : c' = cf := by have := hi.symm.trans hf'; simp at this; exact this.1.symm
    rw [hdecl] at hown2
    rw [← e1]; exact Option.some.inj (C.2.2.2.2.2.2.1.symm.trans hown2)
  have h6 := u_fits hfc hkC hkind (Or.inr hlay) hi hdd hn hfit
  refine W.putFinK C.1 C.2.1 C.2.2.2.2.2.2.1 (C.2.2.2.2.2.2.2.1 _ hlink) hi hst hcf (C.2.2.2.2.2.1.trans hin2) (by rw [q2]; exact h6) q1 q3 (by rw [hsl]; exact k2_hasslot (q4 kf hk)) rfl rfl hd fun H' e1 e2 e3 => ?_
  rw [hsl] at e1 ⊢
  exact k p e s m args below meth c C H' _ ls (hH.set (hH.2 a _ ha).1 e2 e3 ⟨_, hc, t_OB.to (V := updV (vp_V fs) kf v) ⟨_, e1, q2, q3, t_set q4 hap hk v⟩ (fun j _ => vp_updV_set hl v j)⟩) (hS.put e2 e3 (hH.2 a _ ha).1) hL
/-! arrays: the place by its number -/
theorem xin {i : Int32} {j N : Nat} (hi : i = nI j) (hj : j < N) (hN : N < 2 ^ 31) : vp_in i N ∧ i.toNatClampNeg = j := by
  subst hi
  exact ⟨vp_in_nI hj hN, nI_clamp (by omega)⟩
theorem r_iald {a N j : Nat} {i : Int32} {f : Nat → Int32} (hd : decode (xm_c M) pc = .ok (.iaload, 1)) (ha : h a = some (xia N f)) (hi : i = nI j) (hj : j < N) (hN : N < 2 ^ 31) (k : Blk g M post (pc + 1) L (.int (f j) :: st) h nx cu su) : Blk g M post pc L (.int i :: .ref a :: st) h nx cu su := by
  intro p e s m args below meth c C H locs ls hH hS hL
  obtain ⟨x1, x2⟩ := xin hi hj hN
  refine va_iald C.1 C.2.1 C.2.2.2.2.2.2.2.2.1.1.1 (xat_P hH ha) 0 0 rfl rfl x1 hd ?_
  rw [x2]
  exact k p e s m args below meth c C H locs ls hH hS hL
theorem r_cald {a N j : Nat} {i : Int32} {f : Nat → Int32} (hd : decode (xm_c M) pc = .ok (.caload, 1)) (ha : h a = some (xca N f)) (hi : i = nI j) (hj : j < N) (hN : N < 2 ^ 31) (k : Blk g M post (pc + 1) L (.int (f j) :: st) h nx cu su) : Blk g M post pc L (.int i :: .ref a :: st) h nx cu su := by
  intro p e s m args below meth c C H locs ls hH hS hL
  obtain ⟨x1, x2⟩ := xin hi hj hN
  refine va_cald C.1 C.2.1 C.2.2.2.2.2.2.2.2.1.1.1 (xat_P hH ha) 0 1 rfl rfl x1 hd ?_
  rw [x2]
  exact k p e s m args below meth c C H locs ls hH hS hL
theorem r_lald {a N j : Nat} {i : Int32} {f : Nat → Int64} (hd : decode (xm_c M) pc = .ok (.laload, 1)) (ha : h a = some (xla N f)) (hi : i = nI j) (hj : j < N) (hN : N < 2 ^ 31) (k : Blk g M post (pc + 1) L (.long (f j) :: st) h nx cu su) : Blk g M post pc L (.int i :: .ref a :: st) h nx cu su := by
  intro p e s m args below meth c C H locs ls hH hS hL
  obtain ⟨x1, x2⟩ := xin hi hj hN
  refine va_lald C.1 C.2.1 C.2.2.2.2.2.2.2.2.1.1.1 (xat_P hH ha) 0 2 rfl rfl x1 hd ?_
  rw [x2]
  exact k p e s m args below meth c C H locs ls hH hS hL
theorem r_zald {a N j : Nat} {i : Int32} {f : Nat → Int32} (hd : decode (xm_c M) pc = .ok (.baload, 1)) (ha : h a = some (xza N f)) (hi : i = nI j) (hj : j < N) (hN : N < 2 ^ 31) (k : Blk g M post (pc + 1) L (.int (f j) :: st) h nx cu su) : Blk g M post pc L (.int i :: .ref a :: st) h nx cu su := by
  intro p e s m args below meth c C H locs ls hH hS hL
  obtain ⟨x1, x2⟩ := xin hi hj hN
  refine va_zald C.1 C.2.1 C.2.2.2.2.2.2.2.2.1.1.1 (xat_P hH ha) 0 3 rfl rfl x1 hd ?_
  rw [x2]
  exact k p e s m args below meth c C H locs ls hH hS hL
theorem r_aald {a N j kd b : Nat} {i : Int32} {f : Nat → Option Nat} {C0 : String} (hkd : ∀ kA : Nat → ClassId, (xtys kA)[kd]? = some (kA kd, .object C0)) (hd : decode (xm_c M) pc = .ok (.aaload, 1)) (ha : h a = some (xra kd N f)) (hi : i = nI j) (hj : j < N) (hN : N < 2 ^ 31) (hf : f j = some b) (k : Blk g M post (pc + 1) L (.ref b :: st) h nx cu su) : Blk g M post pc L (.int i :: .ref a :: st) h nx cu su := by
  intro p e s m args below meth c C H locs ls hH hS hL
  obtain ⟨x1, x2⟩ := xin hi hj hN
  refine va_aldq C.1 C.2.1 C.2.2.2.2.2.2.2.2.1.1.1 (xat_P hH ha) 0 kd rfl (hkd _) x1 hd ?_
  rw [x2, hf]
  exact k p e s m args below meth c C H locs ls hH hS hL
theorem xupd {f : Nat → Int32} {j : Nat} {x : Int32} : upd f j x = va_up f j x := rfl
theorem xupdL {f : Nat → Int64} {j : Nat} {x : Int64} : vp_updL f j x = va_up f j x := rfl
theorem r_iast {a N j : Nat} {i x : Int32} {f : Nat → Int32} (hd : decode (xm_c M) pc = .ok (.iastore, 1)) (ha : h a = some (xia N f)) (hi : i = nI j) (hj : j < N) (hN : N < 2 ^ 31) (k : Blk g M post (pc + 1) L st (xup h a (xia N (va_up f j x))) nx cu su) : Blk g M post pc L (.int x :: .int i :: .ref a :: st) h nx cu su := by
  intro p e s m args below meth c C H locs ls hH hS hL
  obtain ⟨x1, x2⟩ := xin hi hj hN
  refine W.iast C.1 C.2.1 (hH.2 a _ ha).2 ((C.2.2.2.2.2.2.2.2.1.1.1.2 0 _ rfl).1 N (fun j => .int (f j))) (fun q => by cases q) (by show ¬ (i < 0 ∨ (arrV _ _ _).slots.size ≤ _); rw [arrV_size]; exact x1) rfl rfl hd fun H1 e1 z oq => ?_
  refine k p e s m args below meth c C H1 _ ls (hH.set (hH.2 a _ ha).1 z oq ?_) (hS.put z oq (hH.2 a _ ha).1) hL
  show H1[a]? = some (vp_cell _ _)
  rw [e1, x2]
  show some ((vp_cell (gK g 0) (N, .inl f)).setSlot j (.int x)) = some (vp_cell (gK g 0) (N, .inl (va_up f j x)))
  rw [vp_cell_i, vp_cell_i, arrV_store]
  congr 2
  funext q
  by_cases hq : q = j
  · subst hq
    simp [updV, va_up]
  · simp [updV, va_up, hq]
theorem r_last {a N j : Nat} {i : Int32} {x : Int64} {f : Nat → Int64} (hd : decode (xm_c M) pc = .ok (.lastore, 1)) (ha : h a = some (xla N f)) (hi : i = nI j) (hj : j < N) (hN : N < 2 ^ 31) (k : Blk g M post (pc + 1) L st (xup h a (xla N (va_up f j x))) nx cu su) : Blk g M post pc L (.long x :: .int i :: .ref a :: st) h nx cu su := by
  intro p e s m args below meth c C H locs ls hH hS hL
  obtain ⟨x1, x2⟩ := xin hi hj hN
  refine W.last C.1 C.2.1 (hH.2 a _ ha).2 ((C.2.2.2.2.2.2.2.2.1.1.1.2 2 _ rfl).1 N (fun j => .long (f j))) (fun q => by cases q) (by show ¬ (i < 0 ∨ (arrV _ _ _).slots.size ≤ _); rw [arrV_size]; exact x1) rfl rfl hd fun H1 e1 z oq => ?_
  refine k p e s m args below meth c C H1 _ ls (hH.set (hH.2 a _ ha).1 z oq ?_) (hS.put z oq (hH.2 a _ ha).1) hL
  show H1[a]? = some (vp_cell _ _)
  rw [e1, x2]
  show some ((vp_cell (gK g 2) (N, .inr (.inl f))).setSlot j (.long x)) = some (vp_cell (gK g 2) (N, .inr (.inl (va_up f j x))))
  rw [vp_cell_l, vp_cell_l, arrV_store]
  congr 2
  funext q
  by_cases hq : q = j
  · subst hq
    simp [updV, va_up]
  · simp [updV, va_up, hq]
theorem r_cast {a N j : Nat} {i x : Int32} {f : Nat → Int32} (hd : decode (xm_c M) pc = .ok (.castore, 1)) (ha : h a = some (xca N f)) (hi : i = nI j) (hj : j < N) (hN : N < 2 ^ 31) (hx : narrow .char (.int x) = .int x) (k : Blk g M post (pc + 1) L st (xup h a (xca N (va_up f j x))) nx cu su) : Blk g M post pc L (.int x :: .int i :: .ref a :: st) h nx cu su := by
  intro p e s m args below meth c C H locs ls hH hS hL
  obtain ⟨x1, x2⟩ := xin hi hj hN
  refine W.cast C.1 C.2.1 (hH.2 a _ ha).2 ((C.2.2.2.2.2.2.2.2.1.1.1.2 1 _ rfl).1 N (fun j => .int (f j))) (fun q => by cases q) (by show ¬ (i < 0 ∨ (arrV _ _ _).slots.size ≤ _); rw [arrV_size]; exact x1) rfl rfl hd fun H1 e1 z oq => ?_
  refine k p e s m args below meth c C H1 _ ls (hH.set (hH.2 a _ ha).1 z oq ?_) (hS.put z oq (hH.2 a _ ha).1) hL
  show H1[a]? = some (vp_cell _ _)
  rw [e1, x2]
  rw [hx]
  show some ((vp_cell (gK g 1) (N, .inl f)).setSlot j (.int x)) = some (vp_cell (gK g 1) (N, .inl (va_up f j x)))
  rw [vp_cell_i, vp_cell_i, arrV_store]
  congr 2
  funext q
  by_cases hq : q = j
  · subst hq
    simp [updV, va_up]
  · simp [updV, va_up, hq]
theorem r_zast {a N j : Nat} {i x : Int32} {f : Nat → Int32} (hd : decode (xm_c M) pc = .ok (.bastore, 1)) (ha : h a = some (xza N f)) (hi : i = nI j) (hj : j < N) (hN : N < 2 ^ 31) (hx : narrow .boolean (.int x) = .int x) (k : Blk g M post (pc + 1) L st (xup h a (xza N (va_up f j x))) nx cu su) : Blk g M post pc L (.int x :: .int i :: .ref a :: st) h nx cu su := by
  intro p e s m args below meth c C H locs ls hH hS hL
  obtain ⟨x1, x2⟩ := xin hi hj hN
  refine W.zast C.1 C.2.1 (hH.2 a _ ha).2 ((C.2.2.2.2.2.2.2.2.1.1.1.2 3 _ rfl).1 N (fun j => .int (f j))) (fun q => by cases q) (by show ¬ (i < 0 ∨ (arrV _ _ _).slots.size ≤ _); rw [arrV_size]; exact x1) rfl rfl hd fun H1 e1 z oq => ?_
  refine k p e s m args below meth c C H1 _ ls (hH.set (hH.2 a _ ha).1 z oq ?_) (hS.put z oq (hH.2 a _ ha).1) hL
  show H1[a]? = some (vp_cell _ _)
  rw [e1, x2]
  rw [hx]
  show some ((vp_cell (gK g 3) (N, .inl f)).setSlot j (.int x)) = some (vp_cell (gK g 3) (N, .inl (va_up f j x)))
  rw [vp_cell_i, vp_cell_i, arrV_store]
  congr 2
  funext q
  by_cases hq : q = j
  · subst hq
    simp [updV, va_up]
  · simp [updV, va_up, hq]
theorem r_alen {a kd N : Nat} {x : (Nat → Int32) ⊕ (Nat → Int64) ⊕ (Nat → UInt32) ⊕ (Nat → UInt64) ⊕ (Nat → Option Nat)} (hkd : kd < 7) (hd : decode (xm_c M) pc = .ok (.arraylength, 1)) (ha : h a = some (.inl (kd, N, x))) (k : Blk g M post (pc + 1) L (.int (nI N) :: st) h nx cu su) : Blk g M post pc L (.ref a :: st) h nx cu su := by
  intro p e s m args below meth c C H locs ls hH hS hL
  have hq : ∃ ty, (xtys (gK g))[kd]? = some (gK g kd, ty) := by
    rcases (show kd = 0 ∨ kd = 1 ∨ kd = 2 ∨ kd = 3 ∨ kd = 4 ∨ kd = 5 ∨ kd = 6 by omega) with rfl | rfl | rfl | rfl | rfl | rfl | rfl <;> exact ⟨_, rfl⟩
  obtain ⟨ty, hty⟩ := hq
  exact va_alen C.1 C.2.1 C.2.2.2.2.2.2.2.2.1.1.1 (xat_P hH ha) 0 kd rfl hty rfl hd (k p e s m args below meth c C H locs ls hH hS hL)
end R2

