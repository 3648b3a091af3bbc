/-! what holds at the start -/
def tmS (i : Nat) : Term := .string ((xSk.getD i ("", 0, "")).1) ((xSk.getD i ("", 0, "")).2.1)
abbrev fl1 : List Cond := flatC (Jvm.Cond.and given_1 narrow_1)
theorem fl_in {w : Cond} (i : Nat) (h : fl1[i]? = some w) : w ∈ fl1 := List.mem_of_getElem? h
theorem tb_in {w : Cond} (i : Nat) (h : tables_1[i]? = some w) : w ∈ lw_tbl := List.mem_append_right _ (List.mem_of_getElem? h)
set_option maxRecDepth 100000 in
theorem pr_list : (fl1.drop 7).take 168 = (List.range 168).map (fun j => Cond.eq (.elem (.static "StateShares" "PRIMES" "[I") (.int (Int32.ofNat j))) (.int (nI (xpr j)))) := by decide +kernel
theorem pr_in (j : Nat) (hj : j < 168) : Cond.eq (.elem (.static "StateShares" "PRIMES" "[I") (.int (Int32.ofNat j))) (.int (nI (xpr j))) ∈ fl1 := by
  have h : Cond.eq (.elem (.static "StateShares" "PRIMES" "[I") (.int (Int32.ofNat j))) (.int (nI (xpr j))) ∈ (fl1.drop 7).take 168 := by
    rw [pr_list]
    exact List.mem_map.mpr ⟨j, List.mem_range.mpr hj, rfl⟩
  exact List.mem_of_mem_drop (List.mem_of_mem_take h)
set_option maxRecDepth 20000 in
theorem st_ex : ∀ i, i < 11 → Cond.exactly (tmS i) "java/lang/String" ∈ fl1 := fun i hi => match i, hi with
  | 0, _ => fl_in 193 (by decide +kernel)
  | 1, _ => fl_in 198 (by decide +kernel)
  | 2, _ => fl_in 204 (by decide +kernel)
  | 3, _ => fl_in 213 (by decide +kernel)
  | 4, _ => fl_in 221 (by decide +kernel)
  | 5, _ => fl_in 230 (by decide +kernel)
  | 6, _ => fl_in 240 (by decide +kernel)
  | 7, _ => fl_in 253 (by decide +kernel)
  | 8, _ => fl_in 267 (by decide +kernel)
  | 9, _ => fl_in 280 (by decide +kernel)
  | 10, _ => fl_in 294 (by decide +kernel)
  | i + 11, h => absurd h (by omega)
set_option maxRecDepth 20000 in
theorem st_co : ∀ i, i < 11 → Cond.eq (.field (tmS i) "java/lang/String" "coder" "B") (.int 0) ∈ fl1 := fun i hi => match i, hi with
  | 0, _ => fl_in 194 (by decide +kernel)
  | 1, _ => fl_in 199 (by decide +kernel)
  | 2, _ => fl_in 205 (by decide +kernel)
  | 3, _ => fl_in 214 (by decide +kernel)
  | 4, _ => fl_in 222 (by decide +kernel)
  | 5, _ => fl_in 231 (by decide +kernel)
  | 6, _ => fl_in 241 (by decide +kernel)
  | 7, _ => fl_in 254 (by decide +kernel)
  | 8, _ => fl_in 268 (by decide +kernel)
  | 9, _ => fl_in 281 (by decide +kernel)
  | 10, _ => fl_in 295 (by decide +kernel)
  | i + 11, h => absurd h (by omega)
set_option maxRecDepth 20000 in
theorem st_ar : ∀ i, i < 11 → Cond.arrayOf (.field (tmS i) "java/lang/String" "value" "[B") .byte ∈ fl1 := fun i hi => match i, hi with
  | 0, _ => fl_in 195 (by decide +kernel)
  | 1, _ => fl_in 200 (by decide +kernel)
  | 2, _ => fl_in 206 (by decide +kernel)
  | 3, _ => fl_in 215 (by decide +kernel)
  | 4, _ => fl_in 223 (by decide +kernel)
  | 5, _ => fl_in 232 (by decide +kernel)
  | 6, _ => fl_in 242 (by decide +kernel)
  | 7, _ => fl_in 255 (by decide +kernel)
  | 8, _ => fl_in 269 (by decide +kernel)
  | 9, _ => fl_in 282 (by decide +kernel)
  | 10, _ => fl_in 296 (by decide +kernel)
  | i + 11, h => absurd h (by omega)
set_option maxRecDepth 20000 in
theorem st_le : ∀ i, i < 11 → Cond.eq (.length (.field (tmS i) "java/lang/String" "value" "[B")) (.int (Int32.ofNat (xLen.getD i 0))) ∈ fl1 := fun i hi => match i, hi with
  | 0, _ => fl_in 196 (by decide +kernel)
  | 1, _ => fl_in 201 (by decide +kernel)
  | 2, _ => fl_in 207 (by decide +kernel)
  | 3, _ => fl_in 216 (by decide +kernel)
  | 4, _ => fl_in 224 (by decide +kernel)
  | 5, _ => fl_in 233 (by decide +kernel)
  | 6, _ => fl_in 243 (by decide +kernel)
  | 7, _ => fl_in 256 (by decide +kernel)
  | 8, _ => fl_in 270 (by decide +kernel)
  | 9, _ => fl_in 283 (by decide +kernel)
  | 10, _ => fl_in 297 (by decide +kernel)
  | i + 11, h => absurd h (by omega)
set_option maxRecDepth 20000 in
theorem st_el0 : ∀ j, j < 1 → Cond.eq (.elem (.field (tmS 0) "java/lang/String" "value" "[B") (.int (Int32.ofNat j))) (.int ((xByt.getD 0 []).getD j 0)) ∈ fl1 := fun j hj => match j, hj with
  | 0, _ => fl_in 197 (by decide +kernel)
  | j + 1, h => absurd h (by omega)
set_option maxRecDepth 20000 in
theorem st_el1 : ∀ j, j < 1 → Cond.eq (.elem (.field (tmS 1) "java/lang/String" "value" "[B") (.int (Int32.ofNat j))) (.int ((xByt.getD 1 []).getD j 0)) ∈ fl1 := fun j hj => match j, hj with
  | 0, _ => fl_in 202 (by decide +kernel)
  | j + 1, h => absurd h (by omega)
set_option maxRecDepth 20000 in
theorem st_el2 : ∀ j, j < 3 → Cond.eq (.elem (.field (tmS 2) "java/lang/String" "value" "[B") (.int (Int32.ofNat j))) (.int ((xByt.getD 2 []).getD j 0)) ∈ fl1 := fun j hj => match j, hj with
  | 0, _ => fl_in 208 (by decide +kernel)
  | 1, _ => fl_in 209 (by decide +kernel)
  | 2, _ => fl_in 210 (by decide +kernel)
  | j + 3, h => absurd h (by omega)
set_option maxRecDepth 20000 in
theorem st_el3 : ∀ j, j < 1 → Cond.eq (.elem (.field (tmS 3) "java/lang/String" "value" "[B") (.int (Int32.ofNat j))) (.int ((xByt.getD 3 []).getD j 0)) ∈ fl1 := fun j hj => match j, hj with
  | 0, _ => fl_in 217 (by decide +kernel)
  | j + 1, h => absurd h (by omega)
set_option maxRecDepth 20000 in
theorem st_el4 : ∀ j, j < 1 → Cond.eq (.elem (.field (tmS 4) "java/lang/String" "value" "[B") (.int (Int32.ofNat j))) (.int ((xByt.getD 4 []).getD j 0)) ∈ fl1 := fun j hj => match j, hj with
  | 0, _ => fl_in 225 (by decide +kernel)
  | j + 1, h => absurd h (by omega)
set_option maxRecDepth 20000 in
theorem st_el5 : ∀ j, j < 1 → Cond.eq (.elem (.field (tmS 5) "java/lang/String" "value" "[B") (.int (Int32.ofNat j))) (.int ((xByt.getD 5 []).getD j 0)) ∈ fl1 := fun j hj => match j, hj with
  | 0, _ => fl_in 234 (by decide +kernel)
  | j + 1, h => absurd h (by omega)
set_option maxRecDepth 20000 in
theorem st_el6 : ∀ j, j < 3 → Cond.eq (.elem (.field (tmS 6) "java/lang/String" "value" "[B") (.int (Int32.ofNat j))) (.int ((xByt.getD 6 []).getD j 0)) ∈ fl1 := fun j hj => match j, hj with
  | 0, _ => fl_in 244 (by decide +kernel)
  | 1, _ => fl_in 245 (by decide +kernel)
  | 2, _ => fl_in 246 (by decide +kernel)
  | j + 3, h => absurd h (by omega)
set_option maxRecDepth 20000 in
theorem st_el7 : ∀ j, j < 3 → Cond.eq (.elem (.field (tmS 7) "java/lang/String" "value" "[B") (.int (Int32.ofNat j))) (.int ((xByt.getD 7 []).getD j 0)) ∈ fl1 := fun j hj => match j, hj with
  | 0, _ => fl_in 257 (by decide +kernel)
  | 1, _ => fl_in 258 (by decide +kernel)
  | 2, _ => fl_in 259 (by decide +kernel)
  | j + 3, h => absurd h (by omega)
set_option maxRecDepth 20000 in
theorem st_el8 : ∀ j, j < 1 → Cond.eq (.elem (.field (tmS 8) "java/lang/String" "value" "[B") (.int (Int32.ofNat j))) (.int ((xByt.getD 8 []).getD j 0)) ∈ fl1 := fun j hj => match j, hj with
  | 0, _ => fl_in 271 (by decide +kernel)
  | j + 1, h => absurd h (by omega)
set_option maxRecDepth 20000 in
theorem st_el9 : ∀ j, j < 1 → Cond.eq (.elem (.field (tmS 9) "java/lang/String" "value" "[B") (.int (Int32.ofNat j))) (.int ((xByt.getD 9 []).getD j 0)) ∈ fl1 := fun j hj => match j, hj with
  | 0, _ => fl_in 284 (by decide +kernel)
  | j + 1, h => absurd h (by omega)
set_option maxRecDepth 20000 in
theorem st_el10 : ∀ j, j < 13 → Cond.eq (.elem (.field (tmS 10) "java/lang/String" "value" "[B") (.int (Int32.ofNat j))) (.int ((xByt.getD 10 []).getD j 0)) ∈ fl1 := fun j hj => match j, hj with
  | 0, _ => fl_in 298 (by decide +kernel)
  | 1, _ => fl_in 299 (by decide +kernel)
  | 2, _ => fl_in 300 (by decide +kernel)
  | 3, _ => fl_in 301 (by decide +kernel)
  | 4, _ => fl_in 302 (by decide +kernel)
  | 5, _ => fl_in 303 (by decide +kernel)
  | 6, _ => fl_in 304 (by decide +kernel)
  | 7, _ => fl_in 305 (by decide +kernel)
  | 8, _ => fl_in 306 (by decide +kernel)
  | 9, _ => fl_in 307 (by decide +kernel)
  | 10, _ => fl_in 308 (by decide +kernel)
  | 11, _ => fl_in 309 (by decide +kernel)
  | 12, _ => fl_in 310 (by decide +kernel)
  | j + 13, h => absurd h (by omega)
theorem st_el : ∀ i, i < 11 → ∀ j, j < xLen.getD i 0 → Cond.eq (.elem (.field (tmS i) "java/lang/String" "value" "[B") (.int (Int32.ofNat j))) (.int ((xByt.getD i []).getD j 0)) ∈ fl1 := fun i hi => match i, hi with
  | 0, _ => st_el0
  | 1, _ => st_el1
  | 2, _ => st_el2
  | 3, _ => st_el3
  | 4, _ => st_el4
  | 5, _ => st_el5
  | 6, _ => st_el6
  | 7, _ => st_el7
  | 8, _ => st_el8
  | 9, _ => st_el9
  | 10, _ => st_el10
  | i + 11, h => absurd h (by omega)
set_option maxRecDepth 20000 in
theorem st_ne0 : ∀ j, 0 < j → j < 11 → Cond.not (Cond.eq (tmS 0) (tmS j)) ∈ fl1 := fun j h1 h2 => match j, h1, h2 with
  | 0, h, _ => absurd h (by omega)
  | 1, _, _ => fl_in 203 (by decide +kernel)
  | 2, _, _ => fl_in 211 (by decide +kernel)
  | 3, _, _ => fl_in 218 (by decide +kernel)
  | 4, _, _ => fl_in 226 (by decide +kernel)
  | 5, _, _ => fl_in 235 (by decide +kernel)
  | 6, _, _ => fl_in 247 (by decide +kernel)
  | 7, _, _ => fl_in 260 (by decide +kernel)
  | 8, _, _ => fl_in 272 (by decide +kernel)
  | 9, _, _ => fl_in 285 (by decide +kernel)
  | 10, _, _ => fl_in 311 (by decide +kernel)
  | j + 11, _, h => absurd h (by omega)
set_option maxRecDepth 20000 in
theorem st_ne1 : ∀ j, 1 < j → j < 11 → Cond.not (Cond.eq (tmS 1) (tmS j)) ∈ fl1 := fun j h1 h2 => match j, h1, h2 with
  | 0, h, _ => absurd h (by omega)
  | 1, h, _ => absurd h (by omega)
  | 2, _, _ => fl_in 212 (by decide +kernel)
  | 3, _, _ => fl_in 219 (by decide +kernel)
  | 4, _, _ => fl_in 227 (by decide +kernel)
  | 5, _, _ => fl_in 236 (by decide +kernel)
  | 6, _, _ => fl_in 248 (by decide +kernel)
  | 7, _, _ => fl_in 261 (by decide +kernel)
  | 8, _, _ => fl_in 273 (by decide +kernel)
  | 9, _, _ => fl_in 286 (by decide +kernel)
  | 10, _, _ => fl_in 312 (by decide +kernel)
  | j + 11, _, h => absurd h (by omega)
set_option maxRecDepth 20000 in
theorem st_ne2 : ∀ j, 2 < j → j < 11 → Cond.not (Cond.eq (tmS 2) (tmS j)) ∈ fl1 := fun j h1 h2 => match j, h1, h2 with
  | 0, h, _ => absurd h (by omega)
  | 1, h, _ => absurd h (by omega)
  | 2, h, _ => absurd h (by omega)
  | 3, _, _ => fl_in 220 (by decide +kernel)
  | 4, _, _ => fl_in 228 (by decide +kernel)
  | 5, _, _ => fl_in 237 (by decide +kernel)
  | 6, _, _ => fl_in 249 (by decide +kernel)
  | 7, _, _ => fl_in 262 (by decide +kernel)
  | 8, _, _ => fl_in 274 (by decide +kernel)
  | 9, _, _ => fl_in 287 (by decide +kernel)
  | 10, _, _ => fl_in 313 (by decide +kernel)
  | j + 11, _, h => absurd h (by omega)
set_option maxRecDepth 20000 in
theorem st_ne3 : ∀ j, 3 < j → j < 11 → Cond.not (Cond.eq (tmS 3) (tmS j)) ∈ fl1 := fun j h1 h2 => match j, h1, h2 with
  | 0, h, _ => absurd h (by omega)
  | 1, h, _ => absurd h (by omega)
  | 2, h, _ => absurd h (by omega)
  | 3, h, _ => absurd h (by omega)
  | 4, _, _ => fl_in 229 (by decide +kernel)
  | 5, _, _ => fl_in 238 (by decide +kernel)
  | 6, _, _ => fl_in 250 (by decide +kernel)
  | 7, _, _ => fl_in 263 (by decide +kernel)
  | 8, _, _ => fl_in 275 (by decide +kernel)
  | 9, _, _ => fl_in 288 (by decide +kernel)
  | 10, _, _ => fl_in 314 (by decide +kernel)
  | j + 11, _, h => absurd h (by omega)
set_option maxRecDepth 20000 in
theorem st_ne4 : ∀ j, 4 < j → j < 11 → Cond.not (Cond.eq (tmS 4) (tmS j)) ∈ fl1 := fun j h1 h2 => match j, h1, h2 with
  | 0, h, _ => absurd h (by omega)
  | 1, h, _ => absurd h (by omega)
  | 2, h, _ => absurd h (by omega)
  | 3, h, _ => absurd h (by omega)
  | 4, h, _ => absurd h (by omega)
  | 5, _, _ => fl_in 239 (by decide +kernel)
  | 6, _, _ => fl_in 251 (by decide +kernel)
  | 7, _, _ => fl_in 264 (by decide +kernel)
  | 8, _, _ => fl_in 276 (by decide +kernel)
  | 9, _, _ => fl_in 289 (by decide +kernel)
  | 10, _, _ => fl_in 315 (by decide +kernel)
  | j + 11, _, h => absurd h (by omega)
set_option maxRecDepth 20000 in
theorem st_ne5 : ∀ j, 5 < j → j < 11 → Cond.not (Cond.eq (tmS 5) (tmS j)) ∈ fl1 := fun j h1 h2 => match j, h1, h2 with
  | 0, h, _ => absurd h (by omega)
  | 1, h, _ => absurd h (by omega)
  | 2, h, _ => absurd h (by omega)
  | 3, h, _ => absurd h (by omega)
  | 4, h, _ => absurd h (by omega)
  | 5, h, _ => absurd h (by omega)
  | 6, _, _ => fl_in 252 (by decide +kernel)
  | 7, _, _ => fl_in 265 (by decide +kernel)
  | 8, _, _ => fl_in 277 (by decide +kernel)
  | 9, _, _ => fl_in 290 (by decide +kernel)
  | 10, _, _ => fl_in 316 (by decide +kernel)
  | j + 11, _, h => absurd h (by omega)
set_option maxRecDepth 20000 in
theorem st_ne6 : ∀ j, 6 < j → j < 11 → Cond.not (Cond.eq (tmS 6) (tmS j)) ∈ fl1 := fun j h1 h2 => match j, h1, h2 with
  | 0, h, _ => absurd h (by omega)
  | 1, h, _ => absurd h (by omega)
  | 2, h, _ => absurd h (by omega)
  | 3, h, _ => absurd h (by omega)
  | 4, h, _ => absurd h (by omega)
  | 5, h, _ => absurd h (by omega)
  | 6, h, _ => absurd h (by omega)
  | 7, _, _ => fl_in 266 (by decide +kernel)
  | 8, _, _ => fl_in 278 (by decide +kernel)
  | 9, _, _ => fl_in 291 (by decide +kernel)
  | 10, _, _ => fl_in 317 (by decide +kernel)
  | j + 11, _, h => absurd h (by omega)
set_option maxRecDepth 20000 in
theorem st_ne7 : ∀ j, 7 < j → j < 11 → Cond.not (Cond.eq (tmS 7) (tmS j)) ∈ fl1 := fun j h1 h2 => match j, h1, h2 with
  | 0, h, _ => absurd h (by omega)
  | 1, h, _ => absurd h (by omega)
  | 2, h, _ => absurd h (by omega)
  | 3, h, _ => absurd h (by omega)
  | 4, h, _ => absurd h (by omega)
  | 5, h, _ => absurd h (by omega)
  | 6, h, _ => absurd h (by omega)
  | 7, h, _ => absurd h (by omega)
  | 8, _, _ => fl_in 279 (by decide +kernel)
  | 9, _, _ => fl_in 292 (by decide +kernel)
  | 10, _, _ => fl_in 318 (by decide +kernel)
  | j + 11, _, h => absurd h (by omega)
set_option maxRecDepth 20000 in
theorem st_ne8 : ∀ j, 8 < j → j < 11 → Cond.not (Cond.eq (tmS 8) (tmS j)) ∈ fl1 := fun j h1 h2 => match j, h1, h2 with
  | 0, h, _ => absurd h (by omega)
  | 1, h, _ => absurd h (by omega)
  | 2, h, _ => absurd h (by omega)
  | 3, h, _ => absurd h (by omega)
  | 4, h, _ => absurd h (by omega)
  | 5, h, _ => absurd h (by omega)
  | 6, h, _ => absurd h (by omega)
  | 7, h, _ => absurd h (by omega)
  | 8, h, _ => absurd h (by omega)
  | 9, _, _ => fl_in 293 (by decide +kernel)
  | 10, _, _ => fl_in 319 (by decide +kernel)
  | j + 11, _, h => absurd h (by omega)
set_option maxRecDepth 20000 in
theorem st_ne9 : ∀ j, 9 < j → j < 11 → Cond.not (Cond.eq (tmS 9) (tmS j)) ∈ fl1 := fun j h1 h2 => match j, h1, h2 with
  | 0, h, _ => absurd h (by omega)
  | 1, h, _ => absurd h (by omega)
  | 2, h, _ => absurd h (by omega)
  | 3, h, _ => absurd h (by omega)
  | 4, h, _ => absurd h (by omega)
  | 5, h, _ => absurd h (by omega)
  | 6, h, _ => absurd h (by omega)
  | 7, h, _ => absurd h (by omega)
  | 8, h, _ => absurd h (by omega)
  | 9, h, _ => absurd h (by omega)
  | 10, _, _ => fl_in 320 (by decide +kernel)
  | j + 11, _, h => absurd h (by omega)
theorem st_ne : ∀ i j, i < j → j < 11 → Cond.not (Cond.eq (tmS i) (tmS j)) ∈ fl1 := fun i => match i with
  | 0 => st_ne0
  | 1 => st_ne1
  | 2 => st_ne2
  | 3 => st_ne3
  | 4 => st_ne4
  | 5 => st_ne5
  | 6 => st_ne6
  | 7 => st_ne7
  | 8 => st_ne8
  | 9 => st_ne9
  | i + 10 => fun j h1 h2 => absurd h1 (by omega)
set_option maxRecDepth 20000 in
theorem st_ref : ∀ i, i < 11 → Cond.stringRef (xSk.getD i ("", 0, "")).1 (xSk.getD i ("", 0, "")).2.1 (xSk.getD i ("", 0, "")).2.2 ∈ lw_tbl := fun i hi => match i, hi with
  | 0, _ => tb_in 368 (by decide +kernel)
  | 1, _ => tb_in 421 (by decide +kernel)
  | 2, _ => tb_in 422 (by decide +kernel)
  | 3, _ => tb_in 427 (by decide +kernel)
  | 4, _ => tb_in 428 (by decide +kernel)
  | 5, _ => tb_in 429 (by decide +kernel)
  | 6, _ => tb_in 430 (by decide +kernel)
  | 7, _ => tb_in 439 (by decide +kernel)
  | 8, _ => tb_in 444 (by decide +kernel)
  | 9, _ => tb_in 445 (by decide +kernel)
  | 10, _ => tb_in 951 (by decide +kernel)
  | i + 11, h => absurd h (by omega)
set_option maxRecDepth 20000 in
theorem wN_J : Cond.instantiable RJx00060 6 ∈ lw_gd := lw_in 911 (by decide +kernel) rfl
set_option maxRecDepth 20000 in
theorem wT_o0 : Cond.arrayOver (.object RX0) ∈ lw_tbl := tb_in 188 (by decide +kernel)
set_option maxRecDepth 20000 in
theorem wT_o2 : Cond.arrayOver (.object RX2) ∈ lw_tbl := tb_in 215 (by decide +kernel)
set_option maxRecDepth 20000 in
theorem wT_o5 : Cond.arrayOver (.object RX5) ∈ lw_tbl := tb_in 181 (by decide +kernel)
set_option maxRecDepth 20000 in
theorem wT_ls : Cond.laysStatic "StateShares" "PRIMES" "[I" ∈ lw_tbl := tb_in 203 (by decide +kernel)
set_option maxRecDepth 20000 in
theorem wT_lc : Cond.laysStatic "java/lang/String" "COMPACT_STRINGS" "Z" ∈ lw_tbl := tb_in 382 (by decide +kernel)
set_option maxRecDepth 20000 in
theorem wT_lf : Cond.laysStatic "jdk/internal/util/Preconditions" "SIOOBE_FORMATTER" "Ljava/util/function/BiFunction;" ∈ lw_tbl := tb_in 398 (by decide +kernel)
set_option maxRecDepth 20000 in
theorem wT_lu : Cond.laysStatic "java/lang/Throwable" "UNASSIGNED_STACK" "[Ljava/lang/StackTraceElement;" ∈ lw_tbl := tb_in 939 (by decide +kernel)
set_option maxRecDepth 20000 in
theorem wT_lp : Cond.laysStatic "java/lang/Throwable" "SUPPRESSED_SENTINEL" "Ljava/util/List;" ∈ lw_tbl := tb_in 941 (by decide +kernel)
set_option maxRecDepth 20000 in
theorem wT_is : Cond.initialized "StateShares" ∈ lw_tbl := tb_in 1 (by decide +kernel)
set_option maxRecDepth 20000 in
theorem wT_ic : Cond.initialized "java/lang/String" ∈ lw_tbl := tb_in 18 (by decide +kernel)
set_option maxRecDepth 20000 in
theorem wT_it : Cond.initialized "java/lang/Throwable" ∈ lw_tbl := tb_in 13 (by decide +kernel)
set_option maxRecDepth 20000 in
theorem wT_ip : Cond.initialized "jdk/internal/util/Preconditions" ∈ lw_tbl := tb_in 20 (by decide +kernel)
set_option maxRecDepth 20000 in
theorem wT_n5 : Cond.fieldLinkNest RX5 22 "StateShares" "PRIMES" "[I" "StateShares" ∈ lw_tbl := tb_in 202 (by decide +kernel)
set_option maxRecDepth 20000 in
theorem wT_n2 : Cond.fieldLinkNest RX2 39 "StateShares" "PRIMES" "[I" "StateShares" ∈ lw_tbl := tb_in 711 (by decide +kernel)
set_option maxRecDepth 20000 in
theorem wT_m8 : Cond.methodLinkNest RX8 27 yX9_smallPart "StateShares" ∈ lw_tbl := tb_in 543 (by decide +kernel)
set_option maxRecDepth 20000 in
theorem wT_m5 : Cond.methodLinkNest RX5 58 yX9_commonDivisor "StateShares" ∈ lw_tbl := tb_in 617 (by decide +kernel)
set_option maxRecDepth 20000 in
theorem wT_d0 : Cond.declares ⟨"java/lang/IndexOutOfBoundsException", "<init>", "(Ljava/lang/String;)V"⟩ ∈ lw_tbl := tb_in 914 (by decide +kernel)
set_option maxRecDepth 20000 in
theorem wT_d1 : Cond.declares ⟨"java/lang/RuntimeException", "<init>", "(Ljava/lang/String;)V"⟩ ∈ lw_tbl := tb_in 916 (by decide +kernel)
set_option maxRecDepth 20000 in
theorem wT_d2 : Cond.declares ⟨"java/lang/Exception", "<init>", "(Ljava/lang/String;)V"⟩ ∈ lw_tbl := tb_in 918 (by decide +kernel)
set_option maxRecDepth 20000 in
theorem wT_d3 : Cond.declares ⟨"java/lang/Throwable", "<init>", "(Ljava/lang/String;)V"⟩ ∈ lw_tbl := tb_in 920 (by decide +kernel)
set_option maxRecDepth 20000 in
theorem wT_ca : Cond.castable AX AX ∈ lw_tbl := tb_in 912 (by decide +kernel)
set_option maxRecDepth 20000 in
theorem wF_ap : Cond.arrayOf (.static "StateShares" "PRIMES" "[I") .int ∈ fl1 := fl_in 5 (by decide +kernel)
set_option maxRecDepth 20000 in
theorem wF_lp : Cond.eq (.length (.static "StateShares" "PRIMES" "[I")) (.int (Int32.ofNat 168)) ∈ fl1 := fl_in 6 (by decide +kernel)
set_option maxRecDepth 20000 in
theorem wF_cs : Cond.eq (.static "java/lang/String" "COMPACT_STRINGS" "Z") (.int 1) ∈ fl1 := fl_in 175 (by decide +kernel)
set_option maxRecDepth 20000 in
theorem wF_sf : Cond.isRef (.static "jdk/internal/util/Preconditions" "SIOOBE_FORMATTER" "Ljava/util/function/BiFunction;") ∈ fl1 := fl_in 176 (by decide +kernel)
set_option maxRecDepth 20000 in
theorem wF_us : Cond.isRef (.static "java/lang/Throwable" "UNASSIGNED_STACK" "[Ljava/lang/StackTraceElement;") ∈ fl1 := fl_in 180 (by decide +kernel)
set_option maxRecDepth 20000 in
theorem wF_ss : Cond.isRef (.static "java/lang/Throwable" "SUPPRESSED_SENTINEL" "Ljava/util/List;") ∈ fl1 := fl_in 181 (by decide +kernel)
abbrev xty7 : List FieldType := [.int, .char, .long, .boolean, .object RX0, .object RX2, .object RX5]
theorem ra_prim {s : State} {args : Array Value} {ty : FieldType} (h : (Cond.arrayClass ty).before args s = true) : ∃ c : ClassId, ArrOfT s c ty ∧ s.vm.findClass ("[" ++ ty.toString) = some c := by
  obtain ⟨c, k, comp, h1, h2, h3⟩ := Cond.arrayClass_spec h
  exact ⟨c, fun n z => ⟨fun k h => (by cases h), k, h2, comp, h3⟩, h1⟩
theorem ra_obj {s : State} {args : Array Value} {C : String} (h : (Cond.arrayOver (.object C)).before args s = true) : ∃ c : ClassId, ArrOfT s c (.object C) ∧ va_RA s c (.object C) := by
  obtain ⟨comp, c, k, h1, -, h3, h4, h5⟩ := Cond.arrayOver_spec h
  exact ⟨c, fun n z => ⟨fun k h => (by cases h), k, h3, comp, h4⟩, k, comp, h3, h4, h1, h5⟩
theorem xF_start {s : State} {b : Nat} (l : Launch) (hts : ∀ w ∈ lw_tbl, w.before #[Value.ref b] s = true) (hgv : (Jvm.Cond.and given_1 narrow_1).before #[Value.ref b] s = true) : ∃ g : xG, gL g = l ∧ gB g = s.heap.size ∧ xF g s s.heap ∧ xX g s s.heap := by
  have hfl := flat_of_before _ hgv
  have hgd : ∀ w ∈ lw_gd, w.before #[Value.ref b] s = true := fun w hw => hts w (lw_gd_sub w hw)
  have hcl : ∀ k : Nat, ∃ d : ClassId × (Nat → Nat), ∀ q : vw_C, vwCl[k]? = some q → u_Kn s q.1 q.2.1 q.2.2 d.1 d.2 := by
    intro k
    match k with
    | 0 =>
      obtain ⟨c, i, h⟩ := u_known (C := RJx00060) (T := TJx00060) (N := 6) (n := 6) hgd in_Jx00060 (hgd _ wN_J)
      exact ⟨(c, i), fun q hq => by cases hq; exact h⟩
    | 1 =>
      obtain ⟨c, i, h⟩ := u_known (C := RX0) (T := TX0) (N := 2) (n := 2) hgd in_X0 (hgd _ wN_StateShares_Big)
      exact ⟨(c, i), fun q hq => by cases hq; exact h⟩
    | 2 =>
      obtain ⟨c, i, h⟩ := u_known (C := RX1) (T := TX1) (N := 18) (n := 18) hgd in_X1 (hgd _ wN_StateShares_Forecast)
      exact ⟨(c, i), fun q hq => by cases hq; exact h⟩
    | 3 =>
      obtain ⟨c, i, h⟩ := u_known (C := RX2) (T := TX2) (N := 2) (n := 2) hgd in_X2 (hgd _ wN_StateShares_Fraction)
      exact ⟨(c, i), fun q hq => by cases hq; exact h⟩
    | 4 =>
      obtain ⟨c, i, h⟩ := u_known (C := RX3) (T := TX3) (N := 4) (n := 4) hgd in_X3 (hgd _ wN_StateShares_Marks)
      exact ⟨(c, i), fun q hq => by cases hq; exact h⟩
    | 5 =>
      obtain ⟨c, i, h⟩ := u_known (C := RX4) (T := TX4) (N := 8) (n := 8) hgd in_X4 (hgd _ wN_StateShares_Moves)
      exact ⟨(c, i), fun q hq => by cases hq; exact h⟩
    | 6 =>
      obtain ⟨c, i, h⟩ := u_known (C := RX5) (T := TX5) (N := 3) (n := 3) hgd in_X5 (hgd _ wN_StateShares_Row)
      exact ⟨(c, i), fun q hq => by cases hq; exact h⟩
    | 7 =>
      obtain ⟨c, i, h⟩ := u_known (C := RX6) (T := TX6) (N := 6) (n := 6) hgd in_X6 (hgd _ wN_StateShares_RuleList)
      exact ⟨(c, i), fun q hq => by cases hq; exact h⟩
    | 8 =>
      obtain ⟨c, i, h⟩ := u_known (C := RX7) (T := TX7) (N := 9) (n := 9) hgd in_X7 (hgd _ wN_StateShares_Rules)
      exact ⟨(c, i), fun q hq => by cases hq; exact h⟩
    | 9 =>
      obtain ⟨c, i, h⟩ := u_known (C := RX8) (T := TX8) (N := 5) (n := 5) hgd in_X8 (hgd _ wN_StateShares_Transfers)
      exact ⟨(c, i), fun q hq => by cases hq; exact h⟩
    | 10 =>
      obtain ⟨c, i, h⟩ := u_known (C := RX9) (T := TX9) (N := 8) (n := 8) hgd in_X9 (hgd _ wN_StateShares)
      exact ⟨(c, i), fun q hq => by cases hq; exact h⟩
    | 11 =>
      obtain ⟨c, i, h⟩ := u_known (C := RX10) (T := TX10) (N := 33) (n := 33) hgd in_X10 (hgd _ wN_StateSharesModel)
      exact ⟨(c, i), fun q hq => by cases hq; exact h⟩
    | k + 12 => exact ⟨(0, fun _ => 0), fun q hq => by simp at hq⟩
  obtain ⟨dD, hdD⟩ := Classical.axiomOfChoice hcl
  have har : ∀ k : Nat, ∃ c : ClassId, ∀ ty : FieldType, xty7[k]? = some ty → ArrOfT s c ty ∧ va_RA s c ty := by
    intro k
    match k with
    | 0 =>
      obtain ⟨c, h1, h2⟩ := ra_prim (hgd _ wA_int)
      exact ⟨c, fun ty h => by cases h; exact ⟨h1, h2⟩⟩
    | 1 =>
      obtain ⟨c, h1, h2⟩ := ra_prim (hgd _ wA_char)
      exact ⟨c, fun ty h => by cases h; exact ⟨h1, h2⟩⟩
    | 2 =>
      obtain ⟨c, h1, h2⟩ := ra_prim (hgd _ wA_long)
      exact ⟨c, fun ty h => by cases h; exact ⟨h1, h2⟩⟩
    | 3 =>
      obtain ⟨c, h1, h2⟩ := ra_prim (hgd _ wA_boolean)
      exact ⟨c, fun ty h => by cases h; exact ⟨h1, h2⟩⟩
    | 4 =>
      obtain ⟨c, h1, h2⟩ := ra_obj (hts _ wT_o0)
      exact ⟨c, fun ty h => by cases h; exact ⟨h1, h2⟩⟩
    | 5 =>
      obtain ⟨c, h1, h2⟩ := ra_obj (hts _ wT_o2)
      exact ⟨c, fun ty h => by cases h; exact ⟨h1, h2⟩⟩
    | 6 =>
      obtain ⟨c, h1, h2⟩ := ra_obj (hts _ wT_o5)
      exact ⟨c, fun ty h => by cases h; exact ⟨h1, h2⟩⟩
    | k + 7 => exact ⟨0, fun ty h => by simp at h⟩
  obtain ⟨dK, hdK⟩ := Classical.axiomOfChoice har
  have hA : ∀ a : Nat, a < s.heap.size → ¬ (fun q : Nat => s.heap.size ≤ q) a := fun a h => Nat.not_le.mpr h
  obtain ⟨pt, hpe, hpT⟩ := va_Tof (tm := .static "StateShares" "PRIMES" "[I") (ty := .int) (N := 168) (f := fun j => .int (nI (xpr j))) (by decide) (hfl _ wF_ap) (va_eqt (hfl _ wF_lp)) (fun j hj => va_eqt (hfl _ (pr_in j hj))) hA
  obtain ⟨adK, adV, hvS, hvE⟩ := vk_Sof (args := #[Value.ref b]) (s := s) (N := 11) (tm := tmS) (len := xLen) (byt := xByt) (fun i hi => by have := xLen_le i hi; omega) (fun i hi => hfl _ (st_ex i hi)) (fun i hi => hfl _ (st_co i hi)) (fun i hi => hfl _ (st_ar i hi)) (fun i hi => hfl _ (st_le i hi)) (fun i hi j hj => hfl _ (st_el i hi j hj)) (fun i j hi hj hne => by
      by_cases z : i < j
      · exact Or.inl (hfl _ (st_ne i j z hj))
      · exact Or.inr (hfl _ (st_ne j i (by omega) hi))) hA
  refine ⟨(l, (fun k => (dD k).1, fun k => (dD k).2), dK, s.heap.size, pt, adK, adV), rfl, rfl, ⟨⟨⟨fun k q hq => hdD k q hq, fun k q hq => ?_⟩, ⟨va_AO.of (hts _ wT_o0), va_AO.of (hts _ wT_o2), va_AO.of (hts _ wT_o5)⟩, ⟨va_Nw.of rfl (hts _ wT_n5), va_Nw.of rfl (hts _ wT_n2), va_Nw.of rfl (hts _ wT_m8), va_Nw.of rfl (hts _ wT_m5)⟩, fun i q hq => ?_⟩, ⟨⟨va_Zof (hts _ wT_ls) (hts _ wT_is) hpe hA, hpT⟩, hvS, va_Zof (hts _ wT_lc) (hts _ wT_ic) (va_eqt (hfl _ wF_cs)) hA, va_Zqof (hts _ wT_lu) (hts _ wT_it) (hfl _ wF_us) hA, va_Zqof (hts _ wT_lp) (hts _ wT_it) (hfl _ wF_ss) hA, va_Zqof (hts _ wT_lf) (hts _ wT_ip) (hfl _ wF_sf) hA⟩⟩, ?_⟩
  · match k, hq with
    | 0, hq => cases hq; exact hdK 0 _ rfl
    | 1, hq => cases hq; exact hdK 1 _ rfl
    | 2, hq => cases hq; exact hdK 2 _ rfl
    | 3, hq => cases hq; exact hdK 3 _ rfl
    | 4, hq => cases hq; exact hdK 4 _ rfl
    | 5, hq => cases hq; exact hdK 5 _ rfl
    | 6, hq => cases hq; exact hdK 6 _ rfl
    | k + 7, hq => simp at hq
  · have hi : i < 11 := by
      have := (List.getElem?_eq_some_iff.mp hq).1
      exact this
    have e : xSk.getD i ("", 0, "") = q := by rw [List.getD_eq_getElem?_getD, hq]; rfl
    have h1 := hts _ (st_ref i hi)
    have h2 := hvE i hi
    unfold tmS at h2
    rw [e] at h1 h2
    exact vk_R.of h1 h2
  · refine xX.start (args := #[Value.ref b]) hA (fun w hw => ?_)
    unfold xXs at hw
    simp only [List.mem_cons, List.not_mem_nil, or_false] at hw
    rcases hw with rfl | rfl | rfl | rfl | rfl | rfl | rfl | rfl | rfl
    · exact hfl _ wF_us
    · exact hfl _ wF_ss
    · exact hts _ wT_lu
    · exact hts _ wT_lp
    · exact hts _ wT_d0
    · exact hts _ wT_d1
    · exact hts _ wT_d2
    · exact hts _ wT_d3
    · exact hts _ wT_ca
