theorem lw_inU {ws : List Cond} (h : ∀ w ∈ ws, w ∈ tables_1 ∧ goodWord w = true) : ∀ w ∈ ws, w ∈ lw_gd := fun w hw => List.mem_filter.mpr ⟨List.mem_append_right _ (h w hw).1, (h w hw).2⟩
set_option maxRecDepth 100000 in
theorem in_Jx00060 : ∀ w ∈ u_ws RJx00060 TJx00060 6, w ∈ lw_gd := lw_inU (by decide +kernel)
theorem df_Jx00060 : ∀ j, j < 6 → defaultValue (tyJx00060 j) = vp_V [.null, .null, .null, .null, .null, .int (nI 0)] j := fun j hj => match j, hj with
  | 0, _ => rfl
  | 1, _ => rfl
  | 2, _ => rfl
  | 3, _ => rfl
  | 4, _ => rfl
  | 5, _ => rfl
  | n + 6, hn => absurd hn (by omega)
set_option maxRecDepth 100000 in
theorem in_X0 : ∀ w ∈ u_ws RX0 TX0 2, w ∈ lw_gd := lw_inU (by decide +kernel)
theorem df_X0 : ∀ j, j < 2 → defaultValue (tyX0 j) = vp_V [.null, .int (nI 0)] j := fun j hj => match j, hj with
  | 0, _ => rfl
  | 1, _ => rfl
  | n + 2, hn => absurd hn (by omega)
set_option maxRecDepth 100000 in
theorem in_X1 : ∀ w ∈ u_ws RX1 TX1 18, w ∈ lw_gd := lw_inU (by decide +kernel)
theorem df_X1 : ∀ j, j < 18 → defaultValue (tyX1 j) = vp_V [.int (nI 0), .null, .null, .null, .null, .null, .null, .null, .null, .null, .null, .null, .null, .int (nI 0), .int (nI 0), .int (nI 0), .int (nI 0), .int (nI 0)] j := fun j hj => match j, hj with
  | 0, _ => rfl
  | 1, _ => rfl
  | 2, _ => rfl
  | 3, _ => rfl
  | 4, _ => rfl
  | 5, _ => rfl
  | 6, _ => rfl
  | 7, _ => rfl
  | 8, _ => rfl
  | 9, _ => rfl
  | 10, _ => rfl
  | 11, _ => rfl
  | 12, _ => rfl
  | 13, _ => rfl
  | 14, _ => rfl
  | 15, _ => rfl
  | 16, _ => rfl
  | 17, _ => rfl
  | n + 18, hn => absurd hn (by omega)
set_option maxRecDepth 100000 in
theorem in_X2 : ∀ w ∈ u_ws RX2 TX2 2, w ∈ lw_gd := lw_inU (by decide +kernel)
theorem df_X2 : ∀ j, j < 2 → defaultValue (tyX2 j) = vp_V [.null, .null] j := fun j hj => match j, hj with
  | 0, _ => rfl
  | 1, _ => rfl
  | n + 2, hn => absurd hn (by omega)
set_option maxRecDepth 100000 in
theorem in_X3 : ∀ w ∈ u_ws RX3 TX3 4, w ∈ lw_gd := lw_inU (by decide +kernel)
theorem df_X3 : ∀ j, j < 4 → defaultValue (tyX3 j) = vp_V [.null, .null, .null, .null] j := fun j hj => match j, hj with
  | 0, _ => rfl
  | 1, _ => rfl
  | 2, _ => rfl
  | 3, _ => rfl
  | n + 4, hn => absurd hn (by omega)
set_option maxRecDepth 100000 in
theorem in_X4 : ∀ w ∈ u_ws RX4 TX4 8, w ∈ lw_gd := lw_inU (by decide +kernel)
theorem df_X4 : ∀ j, j < 8 → defaultValue (tyX4 j) = vp_V [.int (nI 0), .null, .null, .null, .null, .null, .int (nI 0), .int (nI 0)] j := fun j hj => match j, hj with
  | 0, _ => rfl
  | 1, _ => rfl
  | 2, _ => rfl
  | 3, _ => rfl
  | 4, _ => rfl
  | 5, _ => rfl
  | 6, _ => rfl
  | 7, _ => rfl
  | n + 8, hn => absurd hn (by omega)
set_option maxRecDepth 100000 in
theorem in_X5 : ∀ w ∈ u_ws RX5 TX5 3, w ∈ lw_gd := lw_inU (by decide +kernel)
theorem df_X5 : ∀ j, j < 3 → defaultValue (tyX5 j) = vp_V [.null, .null, .null] j := fun j hj => match j, hj with
  | 0, _ => rfl
  | 1, _ => rfl
  | 2, _ => rfl
  | n + 3, hn => absurd hn (by omega)
set_option maxRecDepth 100000 in
theorem in_X6 : ∀ w ∈ u_ws RX6 TX6 6, w ∈ lw_gd := lw_inU (by decide +kernel)
theorem df_X6 : ∀ j, j < 6 → defaultValue (tyX6 j) = vp_V [.null, .null, .null, .null, .null, .int (nI 0)] j := fun j hj => match j, hj with
  | 0, _ => rfl
  | 1, _ => rfl
  | 2, _ => rfl
  | 3, _ => rfl
  | 4, _ => rfl
  | 5, _ => rfl
  | n + 6, hn => absurd hn (by omega)
set_option maxRecDepth 100000 in
theorem in_X7 : ∀ w ∈ u_ws RX7 TX7 9, w ∈ lw_gd := lw_inU (by decide +kernel)
theorem df_X7 : ∀ j, j < 9 → defaultValue (tyX7 j) = vp_V [.int (nI 0), .null, .int (nI 0), .null, .null, .int (nI 0), .int (nI 0), .null, .null] j := fun j hj => match j, hj with
  | 0, _ => rfl
  | 1, _ => rfl
  | 2, _ => rfl
  | 3, _ => rfl
  | 4, _ => rfl
  | 5, _ => rfl
  | 6, _ => rfl
  | 7, _ => rfl
  | 8, _ => rfl
  | n + 9, hn => absurd hn (by omega)
set_option maxRecDepth 100000 in
theorem in_X8 : ∀ w ∈ u_ws RX8 TX8 5, w ∈ lw_gd := lw_inU (by decide +kernel)
theorem df_X8 : ∀ j, j < 5 → defaultValue (tyX8 j) = vp_V [.null, .null, .null, .null, .null] j := fun j hj => match j, hj with
  | 0, _ => rfl
  | 1, _ => rfl
  | 2, _ => rfl
  | 3, _ => rfl
  | 4, _ => rfl
  | n + 5, hn => absurd hn (by omega)
set_option maxRecDepth 100000 in
theorem in_X9 : ∀ w ∈ u_ws RX9 TX9 8, w ∈ lw_gd := lw_inU (by decide +kernel)
theorem df_X9 : ∀ j, j < 8 → defaultValue (tyX9 j) = vp_V [.int (nI 0), .null, .null, .null, .null, .null, .null, .int (nI 0)] j := fun j hj => match j, hj with
  | 0, _ => rfl
  | 1, _ => rfl
  | 2, _ => rfl
  | 3, _ => rfl
  | 4, _ => rfl
  | 5, _ => rfl
  | 6, _ => rfl
  | 7, _ => rfl
  | n + 8, hn => absurd hn (by omega)
set_option maxRecDepth 100000 in
theorem in_X10 : ∀ w ∈ u_ws RX10 TX10 33, w ∈ lw_gd := lw_inU (by decide +kernel)
theorem df_X10 : ∀ j, j < 33 → defaultValue (tyX10 j) = vp_V [.int (nI 0), .int (nI 0), .null, .null, .null, .int (nI 0), .int (nI 0), .null, .null, .int (nI 0), .int (nI 0), .int (nI 0), .null, .int (nI 0), .null, .int (nI 0), .null, .null, .int (nI 0), .null, .null, .null, .null, .null, .null, .null, .null, .null, .null, .null, .null, .int (nI 0), .int (nI 0)] j := fun j hj => match j, hj with
  | 0, _ => rfl
  | 1, _ => rfl
  | 2, _ => rfl
  | 3, _ => rfl
  | 4, _ => rfl
  | 5, _ => rfl
  | 6, _ => rfl
  | 7, _ => rfl
  | 8, _ => rfl
  | 9, _ => rfl
  | 10, _ => rfl
  | 11, _ => rfl
  | 12, _ => rfl
  | 13, _ => rfl
  | 14, _ => rfl
  | 15, _ => rfl
  | 16, _ => rfl
  | 17, _ => rfl
  | 18, _ => rfl
  | 19, _ => rfl
  | 20, _ => rfl
  | 21, _ => rfl
  | 22, _ => rfl
  | 23, _ => rfl
  | 24, _ => rfl
  | 25, _ => rfl
  | 26, _ => rfl
  | 27, _ => rfl
  | 28, _ => rfl
  | 29, _ => rfl
  | 30, _ => rfl
  | 31, _ => rfl
  | 32, _ => rfl
  | n + 33, hn => absurd hn (by omega)
