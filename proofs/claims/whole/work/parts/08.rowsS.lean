section RS
variable {g : xG} {M : xM} {post : xPost} {pc : Nat} {L : List (Nat × Value)} {st : List Value} {h : xHp} {nx cu su : Nat}
theorem r_ldcS {i : Nat} {q : String × Nat × String} (hq : xSk[i]? = some q) (ho : (xm_y M).cls = q.1) (hd : decode (xm_c M) pc = .ok (.ldc q.2.1, 2)) (k : Blk g M post (pc + 2) L (.ref (gS g i) :: st) h nx cu su) : Blk g M post pc L st h nx cu su :=
  fun p e s m args below meth c C H locs ls hH hS hL => va_ldcS C.1 C.2.1 (ho ▸ C.own) (C.F.1.2.2.2 i q hq) hd (k p e s m args below meth c C H locs ls hH hS hL)
end RS
