/-! the reference: made -/
def BlkI (g : xG) (M : xM) (m : Nat) (Q : mQ) (pc : Nat) (L : List (Nat × Value)) (st : List Value) (s : MV) : Prop := ∀ h0 h nx, Off m 22 h0 h → MAt h m s → Blk g M (pM m h0 nx Q) pc L st h nx 21 30064
set_option maxRecDepth 20000 in
theorem wM_X10_1 : Cond.methodLink "StateSharesModel" 1 (objectInit) ∈ lw_gd := lw_in 1020 (by decide +kernel) rfl
set_option maxRecDepth 20000 in
theorem wA_long : Cond.arrayClass .long ∈ lw_gd := lw_in 1131 (by decide +kernel) rfl
set_option maxRecDepth 20000 in
theorem wA_boolean : Cond.arrayClass .boolean ∈ lw_gd := lw_in 1132 (by decide +kernel) rfl
abbrev M_X10_init : xM := (yX10_init, cX10_init, 6, none, { frames := 1, cells := 21, slots := 30064, locals := 29 })
theorem dX10_init_0 : decode cX10_init 0 = .ok (.aload_n 0, 1) := by decide +kernel
theorem dX10_init_1 : decode cX10_init 1 = .ok (.invokespecial 1, 3) := by decide +kernel
theorem dX10_init_4 : decode cX10_init 4 = .ok (.aload_n 0, 1) := by decide +kernel
theorem dX10_init_5 : decode cX10_init 5 = .ok (.sipush 480, 3) := by decide +kernel
theorem dX10_init_8 : decode cX10_init 8 = .ok (.newarray .int, 2) := by decide +kernel
theorem dX10_init_10 : decode cX10_init 10 = .ok (.putfield 7, 3) := by decide +kernel
theorem dX10_init_13 : decode cX10_init 13 = .ok (.aload_n 0, 1) := by decide +kernel
theorem dX10_init_14 : decode cX10_init 14 = .ok (.bipush 10, 2) := by decide +kernel
theorem dX10_init_16 : decode cX10_init 16 = .ok (.newarray .int, 2) := by decide +kernel
theorem dX10_init_18 : decode cX10_init 18 = .ok (.putfield 13, 3) := by decide +kernel
theorem dX10_init_21 : decode cX10_init 21 = .ok (.aload_n 0, 1) := by decide +kernel
theorem dX10_init_22 : decode cX10_init 22 = .ok (.bipush 120, 2) := by decide +kernel
theorem dX10_init_24 : decode cX10_init 24 = .ok (.newarray .int, 2) := by decide +kernel
theorem dX10_init_26 : decode cX10_init 26 = .ok (.putfield 16, 3) := by decide +kernel
theorem dX10_init_29 : decode cX10_init 29 = .ok (.aload_n 0, 1) := by decide +kernel
theorem dX10_init_30 : decode cX10_init 30 = .ok (.bipush 121, 2) := by decide +kernel
theorem dX10_init_32 : decode cX10_init 32 = .ok (.newarray .int, 2) := by decide +kernel
theorem dX10_init_34 : decode cX10_init 34 = .ok (.putfield 19, 3) := by decide +kernel
theorem dX10_init_37 : decode cX10_init 37 = .ok (.aload_n 0, 1) := by decide +kernel
theorem dX10_init_38 : decode cX10_init 38 = .ok (.bipush 121, 2) := by decide +kernel
theorem dX10_init_40 : decode cX10_init 40 = .ok (.newarray .int, 2) := by decide +kernel
theorem dX10_init_42 : decode cX10_init 42 = .ok (.putfield 22, 3) := by decide +kernel
theorem dX10_init_45 : decode cX10_init 45 = .ok (.aload_n 0, 1) := by decide +kernel
theorem dX10_init_46 : decode cX10_init 46 = .ok (.bipush 126, 2) := by decide +kernel
theorem dX10_init_48 : decode cX10_init 48 = .ok (.newarray .int, 2) := by decide +kernel
theorem dX10_init_50 : decode cX10_init 50 = .ok (.putfield 25, 3) := by decide +kernel
theorem dX10_init_53 : decode cX10_init 53 = .ok (.aload_n 0, 1) := by decide +kernel
theorem dX10_init_54 : decode cX10_init 54 = .ok (.sipush 132, 3) := by decide +kernel
theorem dX10_init_57 : decode cX10_init 57 = .ok (.newarray .int, 2) := by decide +kernel
theorem dX10_init_59 : decode cX10_init 59 = .ok (.putfield 28, 3) := by decide +kernel
theorem dX10_init_62 : decode cX10_init 62 = .ok (.aload_n 0, 1) := by decide +kernel
theorem dX10_init_63 : decode cX10_init 63 = .ok (.bipush 36, 2) := by decide +kernel
theorem dX10_init_65 : decode cX10_init 65 = .ok (.newarray .int, 2) := by decide +kernel
theorem dX10_init_67 : decode cX10_init 67 = .ok (.putfield 31, 3) := by decide +kernel
theorem dX10_init_70 : decode cX10_init 70 = .ok (.aload_n 0, 1) := by decide +kernel
theorem dX10_init_71 : decode cX10_init 71 = .ok (.bipush 6, 2) := by decide +kernel
theorem dX10_init_73 : decode cX10_init 73 = .ok (.newarray .int, 2) := by decide +kernel
theorem dX10_init_75 : decode cX10_init 75 = .ok (.putfield 34, 3) := by decide +kernel
theorem dX10_init_78 : decode cX10_init 78 = .ok (.aload_n 0, 1) := by decide +kernel
theorem dX10_init_79 : decode cX10_init 79 = .ok (.bipush 6, 2) := by decide +kernel
theorem dX10_init_81 : decode cX10_init 81 = .ok (.newarray .int, 2) := by decide +kernel
theorem dX10_init_83 : decode cX10_init 83 = .ok (.putfield 37, 3) := by decide +kernel
theorem dX10_init_86 : decode cX10_init 86 = .ok (.aload_n 0, 1) := by decide +kernel
theorem dX10_init_87 : decode cX10_init 87 = .ok (.bipush 6, 2) := by decide +kernel
theorem dX10_init_89 : decode cX10_init 89 = .ok (.newarray .int, 2) := by decide +kernel
theorem dX10_init_91 : decode cX10_init 91 = .ok (.putfield 40, 3) := by decide +kernel
theorem dX10_init_94 : decode cX10_init 94 = .ok (.aload_n 0, 1) := by decide +kernel
theorem dX10_init_95 : decode cX10_init 95 = .ok (.bipush 11, 2) := by decide +kernel
theorem dX10_init_97 : decode cX10_init 97 = .ok (.newarray .int, 2) := by decide +kernel
theorem dX10_init_99 : decode cX10_init 99 = .ok (.putfield 43, 3) := by decide +kernel
theorem dX10_init_102 : decode cX10_init 102 = .ok (.aload_n 0, 1) := by decide +kernel
theorem dX10_init_103 : decode cX10_init 103 = .ok (.sipush 528, 3) := by decide +kernel
theorem dX10_init_106 : decode cX10_init 106 = .ok (.newarray .int, 2) := by decide +kernel
theorem dX10_init_108 : decode cX10_init 108 = .ok (.putfield 46, 3) := by decide +kernel
theorem dX10_init_111 : decode cX10_init 111 = .ok (.aload_n 0, 1) := by decide +kernel
theorem dX10_init_112 : decode cX10_init 112 = .ok (.bipush 11, 2) := by decide +kernel
theorem dX10_init_114 : decode cX10_init 114 = .ok (.newarray .int, 2) := by decide +kernel
theorem dX10_init_116 : decode cX10_init 116 = .ok (.putfield 49, 3) := by decide +kernel
theorem dX10_init_119 : decode cX10_init 119 = .ok (.aload_n 0, 1) := by decide +kernel
theorem dX10_init_120 : decode cX10_init 120 = .ok (.sipush 528, 3) := by decide +kernel
theorem dX10_init_123 : decode cX10_init 123 = .ok (.newarray .int, 2) := by decide +kernel
theorem dX10_init_125 : decode cX10_init 125 = .ok (.putfield 52, 3) := by decide +kernel
theorem dX10_init_128 : decode cX10_init 128 = .ok (.aload_n 0, 1) := by decide +kernel
theorem dX10_init_129 : decode cX10_init 129 = .ok (.bipush 6, 2) := by decide +kernel
theorem dX10_init_131 : decode cX10_init 131 = .ok (.newarray .long, 2) := by decide +kernel
theorem dX10_init_133 : decode cX10_init 133 = .ok (.putfield 55, 3) := by decide +kernel
theorem dX10_init_136 : decode cX10_init 136 = .ok (.aload_n 0, 1) := by decide +kernel
theorem dX10_init_137 : decode cX10_init 137 = .ok (.sipush 168, 3) := by decide +kernel
theorem dX10_init_140 : decode cX10_init 140 = .ok (.newarray .int, 2) := by decide +kernel
theorem dX10_init_142 : decode cX10_init 142 = .ok (.putfield 59, 3) := by decide +kernel
theorem dX10_init_145 : decode cX10_init 145 = .ok (.aload_n 0, 1) := by decide +kernel
theorem dX10_init_146 : decode cX10_init 146 = .ok (.sipush 13440, 3) := by decide +kernel
theorem dX10_init_149 : decode cX10_init 149 = .ok (.newarray .long, 2) := by decide +kernel
theorem dX10_init_151 : decode cX10_init 151 = .ok (.putfield 62, 3) := by decide +kernel
theorem dX10_init_154 : decode cX10_init 154 = .ok (.aload_n 0, 1) := by decide +kernel
theorem dX10_init_155 : decode cX10_init 155 = .ok (.bipush 84, 2) := by decide +kernel
theorem dX10_init_157 : decode cX10_init 157 = .ok (.newarray .int, 2) := by decide +kernel
theorem dX10_init_159 : decode cX10_init 159 = .ok (.putfield 65, 3) := by decide +kernel
theorem dX10_init_162 : decode cX10_init 162 = .ok (.aload_n 0, 1) := by decide +kernel
theorem dX10_init_163 : decode cX10_init 163 = .ok (.sipush 14112, 3) := by decide +kernel
theorem dX10_init_166 : decode cX10_init 166 = .ok (.newarray .int, 2) := by decide +kernel
theorem dX10_init_168 : decode cX10_init 168 = .ok (.putfield 68, 3) := by decide +kernel
theorem dX10_init_171 : decode cX10_init 171 = .ok (.aload_n 0, 1) := by decide +kernel
theorem dX10_init_172 : decode cX10_init 172 = .ok (.bipush 12, 2) := by decide +kernel
theorem dX10_init_174 : decode cX10_init 174 = .ok (.newarray .boolean, 2) := by decide +kernel
theorem dX10_init_176 : decode cX10_init 176 = .ok (.putfield 71, 3) := by decide +kernel
theorem dX10_init_179 : decode cX10_init 179 = .ok (.aload_n 0, 1) := by decide +kernel
theorem dX10_init_180 : decode cX10_init 180 = .ok (.iload_n 1, 1) := by decide +kernel
theorem dX10_init_181 : decode cX10_init 181 = .ok (.iconst 2, 1) := by decide +kernel
theorem dX10_init_182 : decode cX10_init 182 = .ok (.if_icmp .ge 7, 3) := by decide +kernel
theorem dX10_init_185 : decode cX10_init 185 = .ok (.iconst 2, 1) := by decide +kernel
theorem dX10_init_186 : decode cX10_init 186 = .ok (.goto 15, 3) := by decide +kernel
theorem dX10_init_189 : decode cX10_init 189 = .ok (.iload_n 1, 1) := by decide +kernel
theorem dX10_init_190 : decode cX10_init 190 = .ok (.bipush 6, 2) := by decide +kernel
theorem dX10_init_192 : decode cX10_init 192 = .ok (.if_icmp .le 8, 3) := by decide +kernel
theorem dX10_init_195 : decode cX10_init 195 = .ok (.bipush 6, 2) := by decide +kernel
theorem dX10_init_197 : decode cX10_init 197 = .ok (.goto 4, 3) := by decide +kernel
theorem dX10_init_200 : decode cX10_init 200 = .ok (.iload_n 1, 1) := by decide +kernel
theorem dX10_init_201 : decode cX10_init 201 = .ok (.putfield 75, 3) := by decide +kernel
theorem dX10_init_204 : decode cX10_init 204 = .ok (.iconst 0, 1) := by decide +kernel
theorem dX10_init_205 : decode cX10_init 205 = .ok (.istore_n 2, 1) := by decide +kernel
theorem dX10_init_206 : decode cX10_init 206 = .ok (.iload_n 2, 1) := by decide +kernel
theorem dX10_init_207 : decode cX10_init 207 = .ok (.sipush 480, 3) := by decide +kernel
theorem dX10_init_210 : decode cX10_init 210 = .ok (.if_icmp .ge 16, 3) := by decide +kernel
theorem dX10_init_213 : decode cX10_init 213 = .ok (.aload_n 0, 1) := by decide +kernel
theorem dX10_init_214 : decode cX10_init 214 = .ok (.getfield 7, 3) := by decide +kernel
theorem dX10_init_217 : decode cX10_init 217 = .ok (.iload_n 2, 1) := by decide +kernel
theorem dX10_init_218 : decode cX10_init 218 = .ok (.iconst (-1), 1) := by decide +kernel
theorem dX10_init_219 : decode cX10_init 219 = .ok (.iastore, 1) := by decide +kernel
theorem dX10_init_220 : decode cX10_init 220 = .ok (.iinc 2 1, 3) := by decide +kernel
theorem dX10_init_223 : decode cX10_init 223 = .ok (.goto (-17), 3) := by decide +kernel
theorem dX10_init_226 : decode cX10_init 226 = .ok (.iconst 0, 1) := by decide +kernel
theorem dX10_init_227 : decode cX10_init 227 = .ok (.istore_n 2, 1) := by decide +kernel
theorem dX10_init_228 : decode cX10_init 228 = .ok (.iconst 2, 1) := by decide +kernel
theorem dX10_init_229 : decode cX10_init 229 = .ok (.istore_n 3, 1) := by decide +kernel
theorem dX10_init_230 : decode cX10_init 230 = .ok (.iload_n 3, 1) := by decide +kernel
theorem dX10_init_231 : decode cX10_init 231 = .ok (.sipush 1000, 3) := by decide +kernel
theorem dX10_init_234 : decode cX10_init 234 = .ok (.if_icmp .ge 66, 3) := by decide +kernel
theorem dX10_init_237 : decode cX10_init 237 = .ok (.iconst 1, 1) := by decide +kernel
theorem dX10_init_238 : decode cX10_init 238 = .ok (.istore 4, 2) := by decide +kernel
theorem dX10_init_240 : decode cX10_init 240 = .ok (.iconst 0, 1) := by decide +kernel
theorem dX10_init_241 : decode cX10_init 241 = .ok (.istore 5, 2) := by decide +kernel
theorem dX10_init_243 : decode cX10_init 243 = .ok (.iload 5, 2) := by decide +kernel
theorem dX10_init_245 : decode cX10_init 245 = .ok (.iload_n 2, 1) := by decide +kernel
theorem dX10_init_246 : decode cX10_init 246 = .ok (.if_icmp .ge 33, 3) := by decide +kernel
theorem dX10_init_249 : decode cX10_init 249 = .ok (.iload 4, 2) := by decide +kernel
theorem dX10_init_251 : decode cX10_init 251 = .ok (.ifCond .eq 19, 3) := by decide +kernel
theorem dX10_init_254 : decode cX10_init 254 = .ok (.iload_n 3, 1) := by decide +kernel
theorem dX10_init_255 : decode cX10_init 255 = .ok (.aload_n 0, 1) := by decide +kernel
theorem dX10_init_256 : decode cX10_init 256 = .ok (.getfield 59, 3) := by decide +kernel
theorem dX10_init_259 : decode cX10_init 259 = .ok (.iload 5, 2) := by decide +kernel
theorem dX10_init_261 : decode cX10_init 261 = .ok (.iaload, 1) := by decide +kernel
theorem dX10_init_262 : decode cX10_init 262 = .ok (.irem, 1) := by decide +kernel
theorem dX10_init_263 : decode cX10_init 263 = .ok (.ifCond .eq 7, 3) := by decide +kernel
theorem dX10_init_266 : decode cX10_init 266 = .ok (.iconst 1, 1) := by decide +kernel
theorem dX10_init_267 : decode cX10_init 267 = .ok (.goto 4, 3) := by decide +kernel
theorem dX10_init_270 : decode cX10_init 270 = .ok (.iconst 0, 1) := by decide +kernel
theorem dX10_init_271 : decode cX10_init 271 = .ok (.istore 4, 2) := by decide +kernel
theorem dX10_init_273 : decode cX10_init 273 = .ok (.iinc 5 1, 3) := by decide +kernel
theorem dX10_init_276 : decode cX10_init 276 = .ok (.goto (-33), 3) := by decide +kernel
theorem dX10_init_279 : decode cX10_init 279 = .ok (.iload 4, 2) := by decide +kernel
theorem dX10_init_281 : decode cX10_init 281 = .ok (.ifCond .eq 13, 3) := by decide +kernel
theorem dX10_init_284 : decode cX10_init 284 = .ok (.aload_n 0, 1) := by decide +kernel
theorem dX10_init_285 : decode cX10_init 285 = .ok (.getfield 59, 3) := by decide +kernel
theorem dX10_init_288 : decode cX10_init 288 = .ok (.iload_n 2, 1) := by decide +kernel
theorem dX10_init_289 : decode cX10_init 289 = .ok (.iload_n 3, 1) := by decide +kernel
theorem dX10_init_290 : decode cX10_init 290 = .ok (.iastore, 1) := by decide +kernel
theorem dX10_init_291 : decode cX10_init 291 = .ok (.iinc 2 1, 3) := by decide +kernel
theorem dX10_init_294 : decode cX10_init 294 = .ok (.iinc 3 1, 3) := by decide +kernel
theorem dX10_init_297 : decode cX10_init 297 = .ok (.goto (-67), 3) := by decide +kernel
theorem dX10_init_300 : decode cX10_init 300 = .ok (.aload_n 0, 1) := by decide +kernel
theorem dX10_init_301 : decode cX10_init 301 = .ok (.iconst 1, 1) := by decide +kernel
theorem dX10_init_302 : decode cX10_init 302 = .ok (.putfield 79, 3) := by decide +kernel
theorem dX10_init_305 : decode cX10_init 305 = .ok (.aload_n 0, 1) := by decide +kernel
theorem dX10_init_306 : decode cX10_init 306 = .ok (.getfield 25, 3) := by decide +kernel
theorem dX10_init_309 : decode cX10_init 309 = .ok (.iconst 4, 1) := by decide +kernel
theorem dX10_init_310 : decode cX10_init 310 = .ok (.iconst 2, 1) := by decide +kernel
theorem dX10_init_311 : decode cX10_init 311 = .ok (.iastore, 1) := by decide +kernel
theorem dX10_init_312 : decode cX10_init 312 = .ok (.aload_n 0, 1) := by decide +kernel
theorem dX10_init_313 : decode cX10_init 313 = .ok (.bipush 83, 2) := by decide +kernel
theorem dX10_init_315 : decode cX10_init 315 = .ok (.lconst 1, 1) := by decide +kernel
theorem dX10_init_316 : decode cX10_init 316 = .ok (.invokevirtual 82, 3) := by decide +kernel
theorem dX10_init_319 : decode cX10_init 319 = .ok (.iconst 0, 1) := by decide +kernel
theorem dX10_init_320 : decode cX10_init 320 = .ok (.istore_n 3, 1) := by decide +kernel
theorem dX10_init_321 : decode cX10_init 321 = .ok (.iload_n 3, 1) := by decide +kernel
theorem dX10_init_322 : decode cX10_init 322 = .ok (.sipush 600, 3) := by decide +kernel
theorem dX10_init_325 : decode cX10_init 325 = .ok (.if_icmp .ge 18, 3) := by decide +kernel
theorem dX10_init_328 : decode cX10_init 328 = .ok (.aload_n 0, 1) := by decide +kernel
theorem dX10_init_329 : decode cX10_init 329 = .ok (.bipush 83, 2) := by decide +kernel
theorem dX10_init_331 : decode cX10_init 331 = .ok (.ldc2_w 86, 3) := by decide +kernel
theorem dX10_init_334 : decode cX10_init 334 = .ok (.invokevirtual 88, 3) := by decide +kernel
theorem dX10_init_337 : decode cX10_init 337 = .ok (.iinc 3 1, 3) := by decide +kernel
theorem dX10_init_340 : decode cX10_init 340 = .ok (.goto (-19), 3) := by decide +kernel
theorem dX10_init_343 : decode cX10_init 343 = .ok (.return_, 1) := by decide +kernel
def fsI (m k : Nat) : List Value := [none, none, some 1, some 2, some 3, none, none, some 4, some 5, none, none, none, some 6, none, some 7, none, some 8, some 9, none, some 10, some 11, some 12, some 13, some 14, some 15, some 16, some 17, some 18, some 19, some 20, some 21, none, none].map (fun (o : Option Nat) => match o with | none => Value.int (nI 0) | some i => if i ≤ k then Value.ref (m + i) else Value.null)
def arrI (j : Nat) : xE := [xna 0 (fun _ => 0), (xia 480 (fun _ => nI 0)), (xna 10 (fun _ => 0)), (xna 120 (fun _ => 0)), (xna 121 (fun _ => 0)), (xna 121 (fun _ => 0)), (xia 126 (fun _ => nI 0)), (xia 132 (fun _ => nI 0)), (xna 36 (fun _ => 0)), (xna 6 (fun _ => 0)), (xna 6 (fun _ => 0)), (xna 6 (fun _ => 0)), (xna 11 (fun _ => 0)), (xna 528 (fun _ => 0)), (xna 11 (fun _ => 0)), (xna 528 (fun _ => 0)), (xla 6 (fun _ => lN 0)), (xna 168 (fun _ => 0)), (xnl 13440 (fun _ => 0)), (xna 84 (fun _ => 0)), (xna 14112 (fun _ => 0)), (xnz 12 (fun _ => 0))].getD j (xna 0 (fun _ => 0))
def PI (h : xHp) (m k : Nat) : Prop := h m = some (xo 11 (fsI m k)) ∧ ∀ j, 1 ≤ j → j ≤ k → h (m + j) = some (arrI j)
theorem pi_step {h0 h : xHp} {m k : Nat} (H : PI h m k) (O : Off m 22 h0 h) (hk : k < 21) : ∃ h2, xup (xup h (m + (k + 1)) (arrI (k + 1))) m (xo 11 (fsI m (k + 1))) = h2 ∧ PI h2 m (k + 1) ∧ Off m 22 h0 h2 := by
  refine ⟨_, rfl, ⟨xup_s _ _ _, fun j h1 h2 => ?_⟩, fun b hb => ((xup_n (by omega)).trans (xup_n (by omega))).trans (O b hb)⟩
  refine (xup_n (by omega)).trans ?_
  by_cases q : j = k + 1
  · subst q; exact xup_s _ _ _
  · exact (xup_n (by omega)).trans (H.2 j h1 (by omega))
def s00 : MV := ((0, 0, 0, 0, 0, 0, 0, 0, 0, 0, 0, 0), ((fun _ => nI 0), (fun _ => 0), (fun _ => 0), (fun _ => 0), (fun _ => 0), (fun _ => nI 0), (fun _ => nI 0), (fun _ => 0), (fun _ => 0)), ((fun _ => 0), (fun _ => 0), (fun _ => 0), (fun _ => 0), (fun _ => 0), (fun _ => 0), (fun _ => lN 0), (fun _ => 0)), ((fun _ => 0), (fun _ => 0), (fun _ => 0), (fun _ => 0)))
theorem pi_end {h : xHp} {m : Nat} (H : PI h m 21) : MAt h m s00 := ⟨H.1, H.2 1 (by decide) (by decide), H.2 2 (by decide) (by decide), H.2 3 (by decide) (by decide), H.2 4 (by decide) (by decide), H.2 5 (by decide) (by decide), H.2 6 (by decide) (by decide), H.2 7 (by decide) (by decide), H.2 8 (by decide) (by decide), H.2 9 (by decide) (by decide), H.2 10 (by decide) (by decide), H.2 11 (by decide) (by decide), H.2 12 (by decide) (by decide), H.2 13 (by decide) (by decide), H.2 14 (by decide) (by decide), H.2 15 (by decide) (by decide), H.2 16 (by decide) (by decide), H.2 17 (by decide) (by decide), H.2 18 (by decide) (by decide), H.2 19 (by decide) (by decide), H.2 20 (by decide) (by decide), H.2 21 (by decide) (by decide)⟩
set_option maxRecDepth 20000 in
theorem v_X10_init_0 {g : xG} {post : xPost} {h : xHp} {nx x0 : Nat} {x1 : Int32} (hnx : x0 + 1 = nx) (hO : h x0 = some (xo 11 (fsI x0 0))) (V : ∀ h', MAt h' x0 s00 → Off x0 22 h h' → Blk g M_X10_init post 179 [(0, .ref x0), (1, .int x1)] [] h' (x0 + 22) 21 30064) : Blk g M_X10_init post 0 [(0, .ref x0), (1, .int x1)] [] h nx 0 0 := by
  subst hnx
  refine r_aload_n 0 dX10_init_0 rfl rfl ?_
  refine r_oinit wM_X10_1 wi_java_lang_Object__init____V wc_java_lang_Object__init____V dX10_init_1 (by decide) (Nat.le_of_ble_eq_true rfl) ?_
  have H0 : PI h x0 0 := ⟨hO, fun j h1 h2 => absurd h2 (by omega)⟩
  have O0 : Off x0 22 h h := Off.rf
  refine r_aload_n 0 dX10_init_4 rfl rfl ?_
  refine r_sipush (v := (nI 480)) dX10_init_5 rfl ?_
  refine r_newi wA_int dX10_init_8 rfl (by decide) (by decide) (by decide) ?_
  show Blk g M_X10_init post 10 [(0, .ref x0), (1, .int x1)] [.ref (x0 + 1), .ref x0] (xup h (x0 + 1) (arrI 1)) (x0 + 2) 1 480
  refine r_putF (ci := 11) (kf := 2) (T := TX10) rfl in_X10 tyX10_ok nmX10 (by decide) wF_X10_7 rfl rfl rfl (tyX10_ok 2 (by decide)) dX10_init_10 ((xup_n (by omega)).trans H0.1) (Nat.le_of_ble_eq_true rfl) rfl rfl ?_
  obtain ⟨h1, e1, H1, O1⟩ := pi_step H0 O0 (by decide)
  refine Blk.eqs ?_ rfl rfl e1
  show Blk g M_X10_init post 13 [(0, .ref x0), (1, .int x1)] [] h1 (x0 + 2) 1 480
  refine r_aload_n 0 dX10_init_13 rfl rfl ?_
  refine r_bipush (v := (nI 10)) dX10_init_14 rfl ?_
  refine r_newi wA_int dX10_init_16 rfl (by decide) (by decide) (by decide) ?_
  show Blk g M_X10_init post 18 [(0, .ref x0), (1, .int x1)] [.ref (x0 + 2), .ref x0] (xup h1 (x0 + 2) (arrI 2)) (x0 + 3) 2 490
  refine r_putF (ci := 11) (kf := 3) (T := TX10) rfl in_X10 tyX10_ok nmX10 (by decide) wF_X10_13 rfl rfl rfl (tyX10_ok 3 (by decide)) dX10_init_18 ((xup_n (by omega)).trans H1.1) (Nat.le_of_ble_eq_true rfl) rfl rfl ?_
  obtain ⟨h2, e2, H2, O2⟩ := pi_step H1 O1 (by decide)
  refine Blk.eqs ?_ rfl rfl e2
  show Blk g M_X10_init post 21 [(0, .ref x0), (1, .int x1)] [] h2 (x0 + 3) 2 490
  refine r_aload_n 0 dX10_init_21 rfl rfl ?_
  refine r_bipush (v := (nI 120)) dX10_init_22 rfl ?_
  refine r_newi wA_int dX10_init_24 rfl (by decide) (by decide) (by decide) ?_
  show Blk g M_X10_init post 26 [(0, .ref x0), (1, .int x1)] [.ref (x0 + 3), .ref x0] (xup h2 (x0 + 3) (arrI 3)) (x0 + 4) 3 610
  refine r_putF (ci := 11) (kf := 4) (T := TX10) rfl in_X10 tyX10_ok nmX10 (by decide) wF_X10_16 rfl rfl rfl (tyX10_ok 4 (by decide)) dX10_init_26 ((xup_n (by omega)).trans H2.1) (Nat.le_of_ble_eq_true rfl) rfl rfl ?_
  obtain ⟨h3, e3, H3, O3⟩ := pi_step H2 O2 (by decide)
  refine Blk.eqs ?_ rfl rfl e3
  show Blk g M_X10_init post 29 [(0, .ref x0), (1, .int x1)] [] h3 (x0 + 4) 3 610
  refine r_aload_n 0 dX10_init_29 rfl rfl ?_
  refine r_bipush (v := (nI 121)) dX10_init_30 rfl ?_
  refine r_newi wA_int dX10_init_32 rfl (by decide) (by decide) (by decide) ?_
  show Blk g M_X10_init post 34 [(0, .ref x0), (1, .int x1)] [.ref (x0 + 4), .ref x0] (xup h3 (x0 + 4) (arrI 4)) (x0 + 5) 4 731
  refine r_putF (ci := 11) (kf := 7) (T := TX10) rfl in_X10 tyX10_ok nmX10 (by decide) wF_X10_19 rfl rfl rfl (tyX10_ok 7 (by decide)) dX10_init_34 ((xup_n (by omega)).trans H3.1) (Nat.le_of_ble_eq_true rfl) rfl rfl ?_
  obtain ⟨h4, e4, H4, O4⟩ := pi_step H3 O3 (by decide)
  refine Blk.eqs ?_ rfl rfl e4
  show Blk g M_X10_init post 37 [(0, .ref x0), (1, .int x1)] [] h4 (x0 + 5) 4 731
  refine r_aload_n 0 dX10_init_37 rfl rfl ?_
  refine r_bipush (v := (nI 121)) dX10_init_38 rfl ?_
  refine r_newi wA_int dX10_init_40 rfl (by decide) (by decide) (by decide) ?_
  show Blk g M_X10_init post 42 [(0, .ref x0), (1, .int x1)] [.ref (x0 + 5), .ref x0] (xup h4 (x0 + 5) (arrI 5)) (x0 + 6) 5 852
  refine r_putF (ci := 11) (kf := 8) (T := TX10) rfl in_X10 tyX10_ok nmX10 (by decide) wF_X10_22 rfl rfl rfl (tyX10_ok 8 (by decide)) dX10_init_42 ((xup_n (by omega)).trans H4.1) (Nat.le_of_ble_eq_true rfl) rfl rfl ?_
  obtain ⟨h5, e5, H5, O5⟩ := pi_step H4 O4 (by decide)
  refine Blk.eqs ?_ rfl rfl e5
  show Blk g M_X10_init post 45 [(0, .ref x0), (1, .int x1)] [] h5 (x0 + 6) 5 852
  refine r_aload_n 0 dX10_init_45 rfl rfl ?_
  refine r_bipush (v := (nI 126)) dX10_init_46 rfl ?_
  refine r_newi wA_int dX10_init_48 rfl (by decide) (by decide) (by decide) ?_
  show Blk g M_X10_init post 50 [(0, .ref x0), (1, .int x1)] [.ref (x0 + 6), .ref x0] (xup h5 (x0 + 6) (arrI 6)) (x0 + 7) 6 978
  refine r_putF (ci := 11) (kf := 12) (T := TX10) rfl in_X10 tyX10_ok nmX10 (by decide) wF_X10_25 rfl rfl rfl (tyX10_ok 12 (by decide)) dX10_init_50 ((xup_n (by omega)).trans H5.1) (Nat.le_of_ble_eq_true rfl) rfl rfl ?_
  obtain ⟨h6, e6, H6, O6⟩ := pi_step H5 O5 (by decide)
  refine Blk.eqs ?_ rfl rfl e6
  show Blk g M_X10_init post 53 [(0, .ref x0), (1, .int x1)] [] h6 (x0 + 7) 6 978
  refine r_aload_n 0 dX10_init_53 rfl rfl ?_
  refine r_sipush (v := (nI 132)) dX10_init_54 rfl ?_
  refine r_newi wA_int dX10_init_57 rfl (by decide) (by decide) (by decide) ?_
  show Blk g M_X10_init post 59 [(0, .ref x0), (1, .int x1)] [.ref (x0 + 7), .ref x0] (xup h6 (x0 + 7) (arrI 7)) (x0 + 8) 7 1110
  refine r_putF (ci := 11) (kf := 14) (T := TX10) rfl in_X10 tyX10_ok nmX10 (by decide) wF_X10_28 rfl rfl rfl (tyX10_ok 14 (by decide)) dX10_init_59 ((xup_n (by omega)).trans H6.1) (Nat.le_of_ble_eq_true rfl) rfl rfl ?_
  obtain ⟨h7, e7, H7, O7⟩ := pi_step H6 O6 (by decide)
  refine Blk.eqs ?_ rfl rfl e7
  show Blk g M_X10_init post 62 [(0, .ref x0), (1, .int x1)] [] h7 (x0 + 8) 7 1110
  refine r_aload_n 0 dX10_init_62 rfl rfl ?_
  refine r_bipush (v := (nI 36)) dX10_init_63 rfl ?_
  refine r_newi wA_int dX10_init_65 rfl (by decide) (by decide) (by decide) ?_
  show Blk g M_X10_init post 67 [(0, .ref x0), (1, .int x1)] [.ref (x0 + 8), .ref x0] (xup h7 (x0 + 8) (arrI 8)) (x0 + 9) 8 1146
  refine r_putF (ci := 11) (kf := 16) (T := TX10) rfl in_X10 tyX10_ok nmX10 (by decide) wF_X10_31 rfl rfl rfl (tyX10_ok 16 (by decide)) dX10_init_67 ((xup_n (by omega)).trans H7.1) (Nat.le_of_ble_eq_true rfl) rfl rfl ?_
  obtain ⟨h8, e8, H8, O8⟩ := pi_step H7 O7 (by decide)
  refine Blk.eqs ?_ rfl rfl e8
  show Blk g M_X10_init post 70 [(0, .ref x0), (1, .int x1)] [] h8 (x0 + 9) 8 1146
  refine r_aload_n 0 dX10_init_70 rfl rfl ?_
  refine r_bipush (v := (nI 6)) dX10_init_71 rfl ?_
  refine r_newi wA_int dX10_init_73 rfl (by decide) (by decide) (by decide) ?_
  show Blk g M_X10_init post 75 [(0, .ref x0), (1, .int x1)] [.ref (x0 + 9), .ref x0] (xup h8 (x0 + 9) (arrI 9)) (x0 + 10) 9 1152
  refine r_putF (ci := 11) (kf := 17) (T := TX10) rfl in_X10 tyX10_ok nmX10 (by decide) wF_X10_34 rfl rfl rfl (tyX10_ok 17 (by decide)) dX10_init_75 ((xup_n (by omega)).trans H8.1) (Nat.le_of_ble_eq_true rfl) rfl rfl ?_
  obtain ⟨h9, e9, H9, O9⟩ := pi_step H8 O8 (by decide)
  refine Blk.eqs ?_ rfl rfl e9
  show Blk g M_X10_init post 78 [(0, .ref x0), (1, .int x1)] [] h9 (x0 + 10) 9 1152
  refine r_aload_n 0 dX10_init_78 rfl rfl ?_
  refine r_bipush (v := (nI 6)) dX10_init_79 rfl ?_
  refine r_newi wA_int dX10_init_81 rfl (by decide) (by decide) (by decide) ?_
  show Blk g M_X10_init post 83 [(0, .ref x0), (1, .int x1)] [.ref (x0 + 10), .ref x0] (xup h9 (x0 + 10) (arrI 10)) (x0 + 11) 10 1158
  refine r_putF (ci := 11) (kf := 19) (T := TX10) rfl in_X10 tyX10_ok nmX10 (by decide) wF_X10_37 rfl rfl rfl (tyX10_ok 19 (by decide)) dX10_init_83 ((xup_n (by omega)).trans H9.1) (Nat.le_of_ble_eq_true rfl) rfl rfl ?_
  obtain ⟨h10, e10, H10, O10⟩ := pi_step H9 O9 (by decide)
  refine Blk.eqs ?_ rfl rfl e10
  show Blk g M_X10_init post 86 [(0, .ref x0), (1, .int x1)] [] h10 (x0 + 11) 10 1158
  refine r_aload_n 0 dX10_init_86 rfl rfl ?_
  refine r_bipush (v := (nI 6)) dX10_init_87 rfl ?_
  refine r_newi wA_int dX10_init_89 rfl (by decide) (by decide) (by decide) ?_
  show Blk g M_X10_init post 91 [(0, .ref x0), (1, .int x1)] [.ref (x0 + 11), .ref x0] (xup h10 (x0 + 11) (arrI 11)) (x0 + 12) 11 1164
  refine r_putF (ci := 11) (kf := 20) (T := TX10) rfl in_X10 tyX10_ok nmX10 (by decide) wF_X10_40 rfl rfl rfl (tyX10_ok 20 (by decide)) dX10_init_91 ((xup_n (by omega)).trans H10.1) (Nat.le_of_ble_eq_true rfl) rfl rfl ?_
  obtain ⟨h11, e11, H11, O11⟩ := pi_step H10 O10 (by decide)
  refine Blk.eqs ?_ rfl rfl e11
  show Blk g M_X10_init post 94 [(0, .ref x0), (1, .int x1)] [] h11 (x0 + 12) 11 1164
  refine r_aload_n 0 dX10_init_94 rfl rfl ?_
  refine r_bipush (v := (nI 11)) dX10_init_95 rfl ?_
  refine r_newi wA_int dX10_init_97 rfl (by decide) (by decide) (by decide) ?_
  show Blk g M_X10_init post 99 [(0, .ref x0), (1, .int x1)] [.ref (x0 + 12), .ref x0] (xup h11 (x0 + 12) (arrI 12)) (x0 + 13) 12 1175
  refine r_putF (ci := 11) (kf := 21) (T := TX10) rfl in_X10 tyX10_ok nmX10 (by decide) wF_X10_43 rfl rfl rfl (tyX10_ok 21 (by decide)) dX10_init_99 ((xup_n (by omega)).trans H11.1) (Nat.le_of_ble_eq_true rfl) rfl rfl ?_
  obtain ⟨h12, e12, H12, O12⟩ := pi_step H11 O11 (by decide)
  refine Blk.eqs ?_ rfl rfl e12
  show Blk g M_X10_init post 102 [(0, .ref x0), (1, .int x1)] [] h12 (x0 + 13) 12 1175
  refine r_aload_n 0 dX10_init_102 rfl rfl ?_
  refine r_sipush (v := (nI 528)) dX10_init_103 rfl ?_
  refine r_newi wA_int dX10_init_106 rfl (by decide) (by decide) (by decide) ?_
  show Blk g M_X10_init post 108 [(0, .ref x0), (1, .int x1)] [.ref (x0 + 13), .ref x0] (xup h12 (x0 + 13) (arrI 13)) (x0 + 14) 13 1703
  refine r_putF (ci := 11) (kf := 22) (T := TX10) rfl in_X10 tyX10_ok nmX10 (by decide) wF_X10_46 rfl rfl rfl (tyX10_ok 22 (by decide)) dX10_init_108 ((xup_n (by omega)).trans H12.1) (Nat.le_of_ble_eq_true rfl) rfl rfl ?_
  obtain ⟨h13, e13, H13, O13⟩ := pi_step H12 O12 (by decide)
  refine Blk.eqs ?_ rfl rfl e13
  show Blk g M_X10_init post 111 [(0, .ref x0), (1, .int x1)] [] h13 (x0 + 14) 13 1703
  refine r_aload_n 0 dX10_init_111 rfl rfl ?_
  refine r_bipush (v := (nI 11)) dX10_init_112 rfl ?_
  refine r_newi wA_int dX10_init_114 rfl (by decide) (by decide) (by decide) ?_
  show Blk g M_X10_init post 116 [(0, .ref x0), (1, .int x1)] [.ref (x0 + 14), .ref x0] (xup h13 (x0 + 14) (arrI 14)) (x0 + 15) 14 1714
  refine r_putF (ci := 11) (kf := 23) (T := TX10) rfl in_X10 tyX10_ok nmX10 (by decide) wF_X10_49 rfl rfl rfl (tyX10_ok 23 (by decide)) dX10_init_116 ((xup_n (by omega)).trans H13.1) (Nat.le_of_ble_eq_true rfl) rfl rfl ?_
  obtain ⟨h14, e14, H14, O14⟩ := pi_step H13 O13 (by decide)
  refine Blk.eqs ?_ rfl rfl e14
  show Blk g M_X10_init post 119 [(0, .ref x0), (1, .int x1)] [] h14 (x0 + 15) 14 1714
  refine r_aload_n 0 dX10_init_119 rfl rfl ?_
  refine r_sipush (v := (nI 528)) dX10_init_120 rfl ?_
  refine r_newi wA_int dX10_init_123 rfl (by decide) (by decide) (by decide) ?_
  show Blk g M_X10_init post 125 [(0, .ref x0), (1, .int x1)] [.ref (x0 + 15), .ref x0] (xup h14 (x0 + 15) (arrI 15)) (x0 + 16) 15 2242
  refine r_putF (ci := 11) (kf := 24) (T := TX10) rfl in_X10 tyX10_ok nmX10 (by decide) wF_X10_52 rfl rfl rfl (tyX10_ok 24 (by decide)) dX10_init_125 ((xup_n (by omega)).trans H14.1) (Nat.le_of_ble_eq_true rfl) rfl rfl ?_
  obtain ⟨h15, e15, H15, O15⟩ := pi_step H14 O14 (by decide)
  refine Blk.eqs ?_ rfl rfl e15
  show Blk g M_X10_init post 128 [(0, .ref x0), (1, .int x1)] [] h15 (x0 + 16) 15 2242
  refine r_aload_n 0 dX10_init_128 rfl rfl ?_
  refine r_bipush (v := (nI 6)) dX10_init_129 rfl ?_
  refine r_newl wA_long dX10_init_131 rfl (by decide) (by decide) (by decide) ?_
  show Blk g M_X10_init post 133 [(0, .ref x0), (1, .int x1)] [.ref (x0 + 16), .ref x0] (xup h15 (x0 + 16) (arrI 16)) (x0 + 17) 16 2248
  refine r_putF (ci := 11) (kf := 25) (T := TX10) rfl in_X10 tyX10_ok nmX10 (by decide) wF_X10_55 rfl rfl rfl (tyX10_ok 25 (by decide)) dX10_init_133 ((xup_n (by omega)).trans H15.1) (Nat.le_of_ble_eq_true rfl) rfl rfl ?_
  obtain ⟨h16, e16, H16, O16⟩ := pi_step H15 O15 (by decide)
  refine Blk.eqs ?_ rfl rfl e16
  show Blk g M_X10_init post 136 [(0, .ref x0), (1, .int x1)] [] h16 (x0 + 17) 16 2248
  refine r_aload_n 0 dX10_init_136 rfl rfl ?_
  refine r_sipush (v := (nI 168)) dX10_init_137 rfl ?_
  refine r_newi wA_int dX10_init_140 rfl (by decide) (by decide) (by decide) ?_
  show Blk g M_X10_init post 142 [(0, .ref x0), (1, .int x1)] [.ref (x0 + 17), .ref x0] (xup h16 (x0 + 17) (arrI 17)) (x0 + 18) 17 2416
  refine r_putF (ci := 11) (kf := 26) (T := TX10) rfl in_X10 tyX10_ok nmX10 (by decide) wF_X10_59 rfl rfl rfl (tyX10_ok 26 (by decide)) dX10_init_142 ((xup_n (by omega)).trans H16.1) (Nat.le_of_ble_eq_true rfl) rfl rfl ?_
  obtain ⟨h17, e17, H17, O17⟩ := pi_step H16 O16 (by decide)
  refine Blk.eqs ?_ rfl rfl e17
  show Blk g M_X10_init post 145 [(0, .ref x0), (1, .int x1)] [] h17 (x0 + 18) 17 2416
  refine r_aload_n 0 dX10_init_145 rfl rfl ?_
  refine r_sipush (v := (nI 13440)) dX10_init_146 rfl ?_
  refine r_newl wA_long dX10_init_149 rfl (by decide) (by decide) (by decide) ?_
  show Blk g M_X10_init post 151 [(0, .ref x0), (1, .int x1)] [.ref (x0 + 18), .ref x0] (xup h17 (x0 + 18) (arrI 18)) (x0 + 19) 18 15856
  refine r_putF (ci := 11) (kf := 27) (T := TX10) rfl in_X10 tyX10_ok nmX10 (by decide) wF_X10_62 rfl rfl rfl (tyX10_ok 27 (by decide)) dX10_init_151 ((xup_n (by omega)).trans H17.1) (Nat.le_of_ble_eq_true rfl) rfl rfl ?_
  obtain ⟨h18, e18, H18, O18⟩ := pi_step H17 O17 (by decide)
  refine Blk.eqs ?_ rfl rfl e18
  show Blk g M_X10_init post 154 [(0, .ref x0), (1, .int x1)] [] h18 (x0 + 19) 18 15856
  refine r_aload_n 0 dX10_init_154 rfl rfl ?_
  refine r_bipush (v := (nI 84)) dX10_init_155 rfl ?_
  refine r_newi wA_int dX10_init_157 rfl (by decide) (by decide) (by decide) ?_
  show Blk g M_X10_init post 159 [(0, .ref x0), (1, .int x1)] [.ref (x0 + 19), .ref x0] (xup h18 (x0 + 19) (arrI 19)) (x0 + 20) 19 15940
  refine r_putF (ci := 11) (kf := 28) (T := TX10) rfl in_X10 tyX10_ok nmX10 (by decide) wF_X10_65 rfl rfl rfl (tyX10_ok 28 (by decide)) dX10_init_159 ((xup_n (by omega)).trans H18.1) (Nat.le_of_ble_eq_true rfl) rfl rfl ?_
  obtain ⟨h19, e19, H19, O19⟩ := pi_step H18 O18 (by decide)
  refine Blk.eqs ?_ rfl rfl e19
  show Blk g M_X10_init post 162 [(0, .ref x0), (1, .int x1)] [] h19 (x0 + 20) 19 15940
  refine r_aload_n 0 dX10_init_162 rfl rfl ?_
  refine r_sipush (v := (nI 14112)) dX10_init_163 rfl ?_
  refine r_newi wA_int dX10_init_166 rfl (by decide) (by decide) (by decide) ?_
  show Blk g M_X10_init post 168 [(0, .ref x0), (1, .int x1)] [.ref (x0 + 20), .ref x0] (xup h19 (x0 + 20) (arrI 20)) (x0 + 21) 20 30052
  refine r_putF (ci := 11) (kf := 29) (T := TX10) rfl in_X10 tyX10_ok nmX10 (by decide) wF_X10_68 rfl rfl rfl (tyX10_ok 29 (by decide)) dX10_init_168 ((xup_n (by omega)).trans H19.1) (Nat.le_of_ble_eq_true rfl) rfl rfl ?_
  obtain ⟨h20, e20, H20, O20⟩ := pi_step H19 O19 (by decide)
  refine Blk.eqs ?_ rfl rfl e20
  show Blk g M_X10_init post 171 [(0, .ref x0), (1, .int x1)] [] h20 (x0 + 21) 20 30052
  refine r_aload_n 0 dX10_init_171 rfl rfl ?_
  refine r_bipush (v := (nI 12)) dX10_init_172 rfl ?_
  refine r_newz wA_boolean dX10_init_174 rfl (by decide) (by decide) (by decide) ?_
  show Blk g M_X10_init post 176 [(0, .ref x0), (1, .int x1)] [.ref (x0 + 21), .ref x0] (xup h20 (x0 + 21) (arrI 21)) (x0 + 22) 21 30064
  refine r_putF (ci := 11) (kf := 30) (T := TX10) rfl in_X10 tyX10_ok nmX10 (by decide) wF_X10_71 rfl rfl rfl (tyX10_ok 30 (by decide)) dX10_init_176 ((xup_n (by omega)).trans H20.1) (Nat.le_of_ble_eq_true rfl) rfl rfl ?_
  obtain ⟨h21, e21, H21, O21⟩ := pi_step H20 O20 (by decide)
  refine Blk.eqs ?_ rfl rfl e21
  show Blk g M_X10_init post 179 [(0, .ref x0), (1, .int x1)] [] h21 (x0 + 22) 21 30064
  exact V h21 (pi_end H21) O21
set_option maxRecDepth 20000 in
theorem v_X10_init_179 {g : xG} {Q : mQ} {s : MV} {x0 : Nat} {x1 : Int32} (V : (((nI 2) ≤ x1 → ((x1 ≤ (nI 6) → (∃ z1 : Nat, x1 = nI z1 ∧ BlkI g M_X10_init x0 Q 204 [(0, .ref x0)] [] (MV.u_n s z1))) ∧ (¬ x1 ≤ (nI 6) → BlkI g M_X10_init x0 Q 204 [(0, .ref x0)] [] (MV.u_n s 6)))) ∧ (¬ (nI 2) ≤ x1 → BlkI g M_X10_init x0 Q 204 [(0, .ref x0)] [] (MV.u_n s 2)))) : BlkI g M_X10_init x0 Q 179 [(0, .ref x0), (1, .int x1)] [] s := by
  intro h0 h nx HO HM
  refine r_aload_n 0 dX10_init_179 rfl rfl ?_
  refine r_iload_n 1 dX10_init_180 rfl rfl ?_
  refine r_iconst (v := (nI 2)) dX10_init_181 rfl ?_
  refine r_icmp_ge (tgt := 189) dX10_init_182 (by decide) (fun c => ?_) (fun c => ?_)
  · have V := V.1 c
    refine r_iload_n 1 dX10_init_189 rfl rfl ?_
    refine r_bipush (v := (nI 6)) dX10_init_190 rfl ?_
    refine r_icmp_le (tgt := 200) dX10_init_192 (by decide) (fun c => ?_) (fun c => ?_)
    · have V := V.1 c
      refine r_iload_n 1 dX10_init_200 rfl rfl ?_
      obtain ⟨z1, e2, V⟩ := V
      refine Blk.to (st' := [.int (nI z1), .ref x0]) ?_ ⟨rfl, by rw [e2], rfl⟩
      refine r_putF (ci := 11) (kf := 1) (T := TX10) rfl in_X10 tyX10_ok nmX10 (by decide) wF_X10_75 rfl rfl rfl (tyX10_ok 1 (by decide)) dX10_init_201 (MAt.o_ HM) (Nat.le_of_ble_eq_true rfl) rfl rfl ?_
      obtain ⟨hu3, eu3, HMu3, HOu3⟩ := mo_o HM HO s.cd z1 s.sz s.wn s.at_ s.wr s.ru s.dn s.lm s.st s.fr s.up
      refine Blk.eqs ?_ rfl rfl eu3
      replace HMu3 : MAt hu3 x0 (MV.u_n s z1) := HMu3
      show Blk g M_X10_init (pM x0 h0 nx Q) 204 [(0, .ref x0), (1, .int x1)] [] hu3 nx 21 30064
      exact Blk.sub [0] rfl (V _ _ _ HOu3 HMu3)
    · have V := V.2 c
      refine r_bipush (v := (nI 6)) dX10_init_195 rfl ?_
      refine r_goto (tgt := 201) dX10_init_197 (by decide) ?_
      refine r_putF (ci := 11) (kf := 1) (T := TX10) rfl in_X10 tyX10_ok nmX10 (by decide) wF_X10_75 rfl rfl rfl (tyX10_ok 1 (by decide)) dX10_init_201 (MAt.o_ HM) (Nat.le_of_ble_eq_true rfl) rfl rfl ?_
      obtain ⟨hu4, eu4, HMu4, HOu4⟩ := mo_o HM HO s.cd 6 s.sz s.wn s.at_ s.wr s.ru s.dn s.lm s.st s.fr s.up
      refine Blk.eqs ?_ rfl rfl eu4
      replace HMu4 : MAt hu4 x0 (MV.u_n s 6) := HMu4
      show Blk g M_X10_init (pM x0 h0 nx Q) 204 [(0, .ref x0), (1, .int x1)] [] hu4 nx 21 30064
      exact Blk.sub [0] rfl (V _ _ _ HOu4 HMu4)
  · have V := V.2 c
    refine r_iconst (v := (nI 2)) dX10_init_185 rfl ?_
    refine r_goto (tgt := 201) dX10_init_186 (by decide) ?_
    refine r_putF (ci := 11) (kf := 1) (T := TX10) rfl in_X10 tyX10_ok nmX10 (by decide) wF_X10_75 rfl rfl rfl (tyX10_ok 1 (by decide)) dX10_init_201 (MAt.o_ HM) (Nat.le_of_ble_eq_true rfl) rfl rfl ?_
    obtain ⟨hu5, eu5, HMu5, HOu5⟩ := mo_o HM HO s.cd 2 s.sz s.wn s.at_ s.wr s.ru s.dn s.lm s.st s.fr s.up
    refine Blk.eqs ?_ rfl rfl eu5
    replace HMu5 : MAt hu5 x0 (MV.u_n s 2) := HMu5
    show Blk g M_X10_init (pM x0 h0 nx Q) 204 [(0, .ref x0), (1, .int x1)] [] hu5 nx 21 30064
    exact Blk.sub [0] rfl (V _ _ _ HOu5 HMu5)
set_option maxRecDepth 20000 in
theorem v_X10_init_204 {g : xG} {Q : mQ} {s : MV} {x0 : Nat} (V : BlkI g M_X10_init x0 Q 206 [(0, .ref x0), (2, .int (nI 0))] [] s) : BlkI g M_X10_init x0 Q 204 [(0, .ref x0)] [] s := by
  intro h0 h nx HO HM
  refine r_iconst (v := (nI 0)) dX10_init_204 rfl ?_
  refine r_istore_n (L' := [(2, .int (nI 0)), (0, .ref x0)]) dX10_init_205 rfl (by decide) rfl ?_
  exact Blk.sub [1, 0] rfl (V _ _ _ HO HM)
set_option maxRecDepth 20000 in
theorem v_X10_init_206 {g : xG} {Q : mQ} {s : MV} {x0 : Nat} {x2 : Nat} (V : ((x2 < 2 ^ 31 ∧ 480 < 2 ^ 31) ∧ ((480 ≤ x2 → BlkI g M_X10_init x0 Q 230 [(0, .ref x0), (2, .int (nI 0)), (3, .int (nI 2))] [] s) ∧ (x2 < 480 → (x2 < 480 ∧ BlkI g M_X10_init x0 Q 206 [(0, .ref x0), (2, .int (nI (x2 + 1)))] [] (MV.u_mk s (va_up s.mk x2 (-1)))))))) : BlkI g M_X10_init x0 Q 206 [(0, .ref x0), (2, .int (nI x2))] [] s := by
  intro h0 h nx HO HM
  refine r_iload_n 1 dX10_init_206 rfl rfl ?_
  refine r_sipush (v := (nI 480)) dX10_init_207 rfl ?_
  obtain ⟨c, V⟩ := V
  refine r_icmp_geN (tgt := 226) dX10_init_210 (by decide) c (fun c => ?_) (fun c => ?_)
  · have V := V.1 c
    refine r_iconst (v := (nI 0)) dX10_init_226 rfl ?_
    refine r_istore_n (L' := [(2, .int (nI 0)), (0, .ref x0)]) dX10_init_227 rfl (by decide) rfl ?_
    refine r_iconst (v := (nI 2)) dX10_init_228 rfl ?_
    refine r_istore_n (L' := [(3, .int (nI 2)), (2, .int (nI 0)), (0, .ref x0)]) dX10_init_229 rfl (by decide) rfl ?_
    exact Blk.sub [2, 1, 0] rfl (V _ _ _ HO HM)
  · have V := V.2 c
    refine r_aload_n 0 dX10_init_213 rfl rfl ?_
    refine r_getf (ci := 11) (kf := 2) (T := TX10) rfl in_X10 (by decide) wF_X10_7 dX10_init_214 (MAt.o_ HM) rfl ?_
    refine r_iload_n 1 dX10_init_217 rfl rfl ?_
    refine r_iconst (v := (-1)) dX10_init_218 rfl ?_
    obtain ⟨c, V⟩ := V
    refine r_iast dX10_init_219 (MAt.g_mk HM) rfl c (by decide) ?_
    obtain ⟨hu1, eu1, HMu1, HOu1⟩ := mo_mk HM HO (va_up s.mk x2 (-1))
    refine Blk.eqs ?_ rfl rfl eu1
    replace HMu1 : MAt hu1 x0 (MV.u_mk s (va_up s.mk x2 (-1))) := HMu1
    show Blk g M_X10_init (pM x0 h0 nx Q) 220 [(0, .ref x0), (2, .int (nI x2))] [] hu1 nx 21 30064
    refine r_iincN 1 (b := 1) (L' := [(2, .int (nI (x2 + 1))), (0, .ref x0)]) dX10_init_220 rfl rfl (by decide) rfl ?_
    refine r_goto (tgt := 206) dX10_init_223 (by decide) ?_
    exact Blk.sub [1, 0] rfl (V _ _ _ HOu1 HMu1)
set_option maxRecDepth 20000 in
theorem v_X10_init_230 {g : xG} {Q : mQ} {s : MV} {x0 : Nat} {x2 : Nat} {x3 : Nat} (V : ((x3 < 2 ^ 31 ∧ 1000 < 2 ^ 31) ∧ ((1000 ≤ x3 → (4 < 126 ∧ (CtM g M_X10_set [.ref x0, .int (nI 83), .long (lN 1)] x0 (MV.u_rl (MV.u_ru s 1) (va_up s.rl 4 (nI 2))) (fun r s5 => r = none ∧ BlkI g M_X10_init x0 Q 321 [(0, .ref x0), (3, .int (nI 0))] [] s5)))) ∧ (x3 < 1000 → BlkI g M_X10_init x0 Q 243 [(0, .ref x0), (2, .int (nI x2)), (3, .int (nI x3)), (4, .int (nI 1)), (5, .int (nI 0))] [] s)))) : BlkI g M_X10_init x0 Q 230 [(0, .ref x0), (2, .int (nI x2)), (3, .int (nI x3))] [] s := by
  intro h0 h nx HO HM
  refine r_iload_n 2 dX10_init_230 rfl rfl ?_
  refine r_sipush (v := (nI 1000)) dX10_init_231 rfl ?_
  obtain ⟨c, V⟩ := V
  refine r_icmp_geN (tgt := 300) dX10_init_234 (by decide) c (fun c => ?_) (fun c => ?_)
  · have V := V.1 c
    refine r_aload_n 0 dX10_init_300 rfl rfl ?_
    refine r_iconst (v := (nI 1)) dX10_init_301 rfl ?_
    refine r_putf (ci := 11) (kf := 11) (T := TX10) rfl in_X10 tyX10_ok nmX10 (by decide) wF_X10_79 rfl (tyX10_ok 11 (by decide)) dX10_init_302 (MAt.o_ HM) (Nat.le_of_ble_eq_true rfl) rfl rfl ?_
    obtain ⟨hu1, eu1, HMu1, HOu1⟩ := mo_o HM HO s.cd s.n s.sz s.wn s.at_ s.wr 1 s.dn s.lm s.st s.fr s.up
    refine Blk.eqs ?_ rfl rfl eu1
    replace HMu1 : MAt hu1 x0 (MV.u_ru s 1) := HMu1
    show Blk g M_X10_init (pM x0 h0 nx Q) 305 [(0, .ref x0), (2, .int (nI x2)), (3, .int (nI x3))] [] hu1 nx 21 30064
    refine r_aload_n 0 dX10_init_305 rfl rfl ?_
    refine r_getf (ci := 11) (kf := 12) (T := TX10) rfl in_X10 (by decide) wF_X10_25 dX10_init_306 (MAt.o_ HMu1) rfl ?_
    show Blk g M_X10_init (pM x0 h0 nx Q) 309 [(0, .ref x0), (2, .int (nI x2)), (3, .int (nI x3))] [.ref (x0 + 6)] hu1 nx 21 30064
    refine r_iconst (v := (nI 4)) dX10_init_309 rfl ?_
    refine r_iconst (v := (nI 2)) dX10_init_310 rfl ?_
    obtain ⟨c, V⟩ := V
    refine r_iast dX10_init_311 (MAt.g_rl HMu1) rfl c (by decide) ?_
    obtain ⟨hu2, eu2, HMu2, HOu2⟩ := mo_rl HMu1 HOu1 (va_up s.rl 4 (nI 2))
    refine Blk.eqs ?_ rfl rfl eu2
    replace HMu2 : MAt hu2 x0 (MV.u_rl (MV.u_ru s 1) (va_up s.rl 4 (nI 2))) := HMu2
    show Blk g M_X10_init (pM x0 h0 nx Q) 312 [(0, .ref x0), (2, .int (nI x2)), (3, .int (nI x3))] [] hu2 nx 21 30064
    refine r_aload_n 0 dX10_init_312 rfl rfl ?_
    refine r_bipush (v := (nI 83)) dX10_init_313 rfl ?_
    refine r_lconst (v := (lN 1)) dX10_init_315 rfl ?_
    refine r_callV (M2 := M_X10_set) (ci := 11) (n := 2) (As := [.int (nI 83), .long (lN 1)]) rfl (wl5 wM_X10_82 wi_X10_set wS_X10_set wI_StateSharesModel wc_X10_set) (by decide +kernel) (by decide) rfl rfl (Nat.le_of_ble_eq_true rfl) dX10_init_316 (MAt.o_ HMu2) (by decide) (by decide) (Ct.imp (V _ _ HMu2) (fun r h3 n4 V => ?_))
    obtain ⟨rfl, Oh3, s5, HMh3, V⟩ := V
    have HOh3 := Off.tr HOu2 Oh3
    obtain ⟨rfl, V⟩ := V
    show Blk g M_X10_init (pM x0 h0 nx Q) 319 [(0, .ref x0), (2, .int (nI x2)), (3, .int (nI x3))] [] h3 nx 21 30064
    refine r_iconst (v := (nI 0)) dX10_init_319 rfl ?_
    refine r_istore_n (L' := [(3, .int (nI 0)), (0, .ref x0), (2, .int (nI x2))]) dX10_init_320 rfl (by decide) rfl ?_
    exact Blk.sub [1, 0] rfl (V _ _ _ HOh3 HMh3)
  · have V := V.2 c
    refine r_iconst (v := (nI 1)) dX10_init_237 rfl ?_
    refine r_istore (L' := [(4, .int (nI 1)), (0, .ref x0), (2, .int (nI x2)), (3, .int (nI x3))]) dX10_init_238 (by decide) rfl ?_
    refine r_iconst (v := (nI 0)) dX10_init_240 rfl ?_
    refine r_istore (L' := [(5, .int (nI 0)), (4, .int (nI 1)), (0, .ref x0), (2, .int (nI x2)), (3, .int (nI x3))]) dX10_init_241 (by decide) rfl ?_
    exact Blk.sub [2, 3, 4, 1, 0] rfl (V _ _ _ HO HM)
set_option maxRecDepth 20000 in
theorem v_X10_init_243 {g : xG} {Q : mQ} {s : MV} {x0 : Nat} {x2 : Nat} {x3 : Nat} {x4 : Nat} {x5 : Nat} (V : ((x5 < 2 ^ 31 ∧ x2 < 2 ^ 31) ∧ ((x2 ≤ x5 → (x4 < 2 ^ 31 ∧ ((x4 = 0 → BlkI g M_X10_init x0 Q 294 [(0, .ref x0), (2, .int (nI x2)), (3, .int (nI x3))] [] s) ∧ (¬ x4 = 0 → (x2 < 168 ∧ BlkI g M_X10_init x0 Q 294 [(0, .ref x0), (2, .int (nI (x2 + 1))), (3, .int (nI x3))] [] (MV.u_pr s (va_up s.pr x2 x3))))))) ∧ (x5 < x2 → (x4 < 2 ^ 31 ∧ ((x4 = 0 → BlkI g M_X10_init x0 Q 273 [(0, .ref x0), (2, .int (nI x2)), (3, .int (nI x3)), (4, .int (nI 0)), (5, .int (nI x5))] [] s) ∧ (¬ x4 = 0 → (x5 < 168 ∧ ((x3 < 2 ^ 31 ∧ 0 < (s.pr x5) ∧ (s.pr x5) < 2 ^ 31) ∧ ((x3 % (s.pr x5)) < 2 ^ 31 ∧ (((x3 % (s.pr x5)) = 0 → BlkI g M_X10_init x0 Q 273 [(0, .ref x0), (2, .int (nI x2)), (3, .int (nI x3)), (4, .int (nI 0)), (5, .int (nI x5))] [] s) ∧ (¬ (x3 % (s.pr x5)) = 0 → BlkI g M_X10_init x0 Q 273 [(0, .ref x0), (2, .int (nI x2)), (3, .int (nI x3)), (4, .int (nI 1)), (5, .int (nI x5))] [] s)))))))))))) : BlkI g M_X10_init x0 Q 243 [(0, .ref x0), (2, .int (nI x2)), (3, .int (nI x3)), (4, .int (nI x4)), (5, .int (nI x5))] [] s := by
  intro h0 h nx HO HM
  refine r_iload 4 dX10_init_243 rfl ?_
  refine r_iload_n 1 dX10_init_245 rfl rfl ?_
  obtain ⟨c, V⟩ := V
  refine r_icmp_geN (tgt := 279) dX10_init_246 (by decide) c (fun c => ?_) (fun c => ?_)
  · have V := V.1 c
    refine r_iload 3 dX10_init_279 rfl ?_
    obtain ⟨c, V⟩ := V
    refine r_if_eqN (tgt := 294) dX10_init_281 (by decide) c (fun c => ?_) (fun c => ?_)
    · have V := V.1 c
      exact Blk.sub [0, 1, 2] rfl (V _ _ _ HO HM)
    · have V := V.2 c
      refine r_aload_n 0 dX10_init_284 rfl rfl ?_
      refine r_getf (ci := 11) (kf := 26) (T := TX10) rfl in_X10 (by decide) wF_X10_59 dX10_init_285 (MAt.o_ HM) rfl ?_
      refine r_iload_n 1 dX10_init_288 rfl rfl ?_
      refine r_iload_n 2 dX10_init_289 rfl rfl ?_
      obtain ⟨c, V⟩ := V
      refine r_iastN dX10_init_290 (MAt.g_pr HM) c (by decide) ?_
      obtain ⟨hu1, eu1, HMu1, HOu1⟩ := mo_pr HM HO (va_up s.pr x2 x3)
      refine Blk.eqs ?_ rfl rfl eu1
      replace HMu1 : MAt hu1 x0 (MV.u_pr s (va_up s.pr x2 x3)) := HMu1
      show Blk g M_X10_init (pM x0 h0 nx Q) 291 [(0, .ref x0), (2, .int (nI x2)), (3, .int (nI x3)), (4, .int (nI x4)), (5, .int (nI x5))] [] hu1 nx 21 30064
      refine r_iincN 1 (b := 1) (L' := [(2, .int (nI (x2 + 1))), (0, .ref x0), (3, .int (nI x3)), (4, .int (nI x4)), (5, .int (nI x5))]) dX10_init_291 rfl rfl (by decide) rfl ?_
      exact Blk.sub [1, 0, 2] rfl (V _ _ _ HOu1 HMu1)
  · have V := V.2 c
    refine r_iload 3 dX10_init_249 rfl ?_
    obtain ⟨c, V⟩ := V
    refine r_if_eqN (tgt := 270) dX10_init_251 (by decide) c (fun c => ?_) (fun c => ?_)
    · have V := V.1 c
      refine r_iconst (v := (nI 0)) dX10_init_270 rfl ?_
      refine r_istore (L' := [(4, .int (nI 0)), (0, .ref x0), (2, .int (nI x2)), (3, .int (nI x3)), (5, .int (nI x5))]) dX10_init_271 (by decide) rfl ?_
      exact Blk.sub [1, 2, 3, 0, 4] rfl (V _ _ _ HO HM)
    · have V := V.2 c
      refine r_iload_n 2 dX10_init_254 rfl rfl ?_
      refine r_aload_n 0 dX10_init_255 rfl rfl ?_
      refine r_getf (ci := 11) (kf := 26) (T := TX10) rfl in_X10 (by decide) wF_X10_59 dX10_init_256 (MAt.o_ HM) rfl ?_
      refine r_iload 4 dX10_init_259 rfl ?_
      obtain ⟨c, V⟩ := V
      refine r_iald dX10_init_261 (MAt.g_pr HM) rfl c (by decide) ?_
      show Blk g M_X10_init (pM x0 h0 nx Q) 262 [(0, .ref x0), (2, .int (nI x2)), (3, .int (nI x3)), (4, .int (nI x4)), (5, .int (nI x5))] [.int (nI (s.pr x5)), .int (nI x3)] h nx 21 30064
      obtain ⟨c, V⟩ := V
      refine r_iremN dX10_init_262 c ?_
      obtain ⟨c, V⟩ := V
      refine r_if_eqN (tgt := 270) dX10_init_263 (by decide) c (fun c => ?_) (fun c => ?_)
      · have V := V.1 c
        refine r_iconst (v := (nI 0)) dX10_init_270 rfl ?_
        refine r_istore (L' := [(4, .int (nI 0)), (0, .ref x0), (2, .int (nI x2)), (3, .int (nI x3)), (5, .int (nI x5))]) dX10_init_271 (by decide) rfl ?_
        exact Blk.sub [1, 2, 3, 0, 4] rfl (V _ _ _ HO HM)
      · have V := V.2 c
        refine r_iconst (v := (nI 1)) dX10_init_266 rfl ?_
        refine r_goto (tgt := 271) dX10_init_267 (by decide) ?_
        refine r_istore (L' := [(4, .int (nI 1)), (0, .ref x0), (2, .int (nI x2)), (3, .int (nI x3)), (5, .int (nI x5))]) dX10_init_271 (by decide) rfl ?_
        exact Blk.sub [1, 2, 3, 0, 4] rfl (V _ _ _ HO HM)
set_option maxRecDepth 20000 in
theorem v_X10_init_273 {g : xG} {Q : mQ} {s : MV} {x0 : Nat} {x2 : Nat} {x3 : Nat} {x4 : Nat} {x5 : Nat} (V : BlkI g M_X10_init x0 Q 243 [(0, .ref x0), (2, .int (nI x2)), (3, .int (nI x3)), (4, .int (nI x4)), (5, .int (nI (x5 + 1)))] [] s) : BlkI g M_X10_init x0 Q 273 [(0, .ref x0), (2, .int (nI x2)), (3, .int (nI x3)), (4, .int (nI x4)), (5, .int (nI x5))] [] s := by
  intro h0 h nx HO HM
  refine r_iincN 4 (b := 1) (L' := [(5, .int (nI (x5 + 1))), (0, .ref x0), (2, .int (nI x2)), (3, .int (nI x3)), (4, .int (nI x4))]) dX10_init_273 rfl rfl (by decide) rfl ?_
  refine r_goto (tgt := 243) dX10_init_276 (by decide) ?_
  exact Blk.sub [1, 2, 3, 4, 0] rfl (V _ _ _ HO HM)
set_option maxRecDepth 20000 in
theorem v_X10_init_294 {g : xG} {Q : mQ} {s : MV} {x0 : Nat} {x2 : Nat} {x3 : Nat} (V : BlkI g M_X10_init x0 Q 230 [(0, .ref x0), (2, .int (nI x2)), (3, .int (nI (x3 + 1)))] [] s) : BlkI g M_X10_init x0 Q 294 [(0, .ref x0), (2, .int (nI x2)), (3, .int (nI x3))] [] s := by
  intro h0 h nx HO HM
  refine r_iincN 2 (b := 1) (L' := [(3, .int (nI (x3 + 1))), (0, .ref x0), (2, .int (nI x2))]) dX10_init_294 rfl rfl (by decide) rfl ?_
  refine r_goto (tgt := 230) dX10_init_297 (by decide) ?_
  exact Blk.sub [1, 2, 0] rfl (V _ _ _ HO HM)
set_option maxRecDepth 20000 in
theorem v_X10_init_321 {g : xG} {Q : mQ} {s : MV} {x0 : Nat} {x3 : Nat} (V : ((x3 < 2 ^ 31 ∧ 600 < 2 ^ 31) ∧ ((600 ≤ x3 → (Q none s)) ∧ (x3 < 600 → (CtM g M_X10_times [.ref x0, .int (nI 83), .long (lN 2)] x0 s (fun r s3 => r = none ∧ BlkI g M_X10_init x0 Q 321 [(0, .ref x0), (3, .int (nI (x3 + 1)))] [] s3)))))) : BlkI g M_X10_init x0 Q 321 [(0, .ref x0), (3, .int (nI x3))] [] s := by
  intro h0 h nx HO HM
  refine r_iload_n 1 dX10_init_321 rfl rfl ?_
  refine r_sipush (v := (nI 600)) dX10_init_322 rfl ?_
  obtain ⟨c, V⟩ := V
  refine r_icmp_geN (tgt := 343) dX10_init_325 (by decide) c (fun c => ?_) (fun c => ?_)
  · have V := V.1 c
    exact r_vret dX10_init_343 rfl (by decide) (by decide) ⟨rfl, HO, _, HM, V⟩
  · have V := V.2 c
    refine r_aload_n 0 dX10_init_328 rfl rfl ?_
    refine r_bipush (v := (nI 83)) dX10_init_329 rfl ?_
    refine r_ldc2 (v := (lN 2)) wL_X10_86 dX10_init_331 ?_
    refine r_callV (M2 := M_X10_times) (ci := 11) (n := 2) (As := [.int (nI 83), .long (lN 2)]) rfl (wl5 wM_X10_88 wi_X10_times wS_X10_times wI_StateSharesModel wc_X10_times) (by decide +kernel) (by decide) rfl rfl (Nat.le_of_ble_eq_true rfl) dX10_init_334 (MAt.o_ HM) (by decide) (by decide) (Ct.imp (V _ _ HM) (fun r h1 n2 V => ?_))
    obtain ⟨rfl, Oh1, s3, HMh1, V⟩ := V
    have HOh1 := Off.tr HO Oh1
    obtain ⟨rfl, V⟩ := V
    show Blk g M_X10_init (pM x0 h0 nx Q) 337 [(0, .ref x0), (3, .int (nI x3))] [] h1 nx 21 30064
    refine r_iincN 1 (b := 1) (L' := [(3, .int (nI (x3 + 1))), (0, .ref x0)]) dX10_init_337 rfl rfl (by decide) rfl ?_
    refine r_goto (tgt := 321) dX10_init_340 (by decide) ?_
    exact Blk.sub [1, 0] rfl (V _ _ _ HOh1 HMh1)
