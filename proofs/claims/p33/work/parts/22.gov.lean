theorem tv_lt {x : Int32} {m : Nat} (h : vp_in x m) : x.toNatClampNeg < m := Nat.not_le.mp fun q => h (Or.inr q)
/-! ===== the methods, block by block (printed by program) ===== -/
abbrev lx_X4_read (dd : Nat) (C : tf_C) (Q : tf_Q) : tf_X := tf_LW 298 C (tf_F 3) (tf_M 3) (tf_I 3) (tf_Eg 298 dd 222) 0 tb_X4_read Q
set_option maxRecDepth 100000 in
theorem go_X4_read_0 {dd : Nat} {C : tf_C} {Q : tf_Q} {h : LH} {x1 : Nat} {x2 : Int32} (Kx1_0 : tf_K x1 = 1) (q : C 225 [.ref (259), .ref (x1)] (tf_up (tf_up (tf_up (tf_up h.1 259 0 0) 259 1 0) 259 2 (-1)) 259 10 0, h.2) (fun r g => lx_X4_read dd C Q 25 [.ref (259), .ref (x1), .int (x2), tf_z, tf_z] [] g)) : lx_X4_read dd C Q 0 [.ref (259), .ref (x1), .int (x2), tf_z, tf_z] [] h := by
  obtain ⟨Bx1, Kx1_1, Nx1_1⟩ := tn_page Kx1_0
  refine tf_LW_go ?_
  exact ⟨⟨(by first | rfl | trivial), (by decide), (by first | rfl | trivial)⟩, ⟨⟨(by first | rfl | trivial), (by decide), (by first | rfl | trivial)⟩, ⟨⟨(by first | rfl | trivial), (by decide), (by first | rfl | trivial)⟩, ⟨⟨(by first | rfl | trivial), (by decide), (by first | rfl | trivial)⟩, ⟨Nat.le_of_ble_eq_true rfl, Nat.le_of_ble_eq_true rfl, q⟩⟩⟩⟩⟩
theorem en_X4_read {d : Nat} {Q : tf_Q} {h : LH} {x1 : Nat} {x2 : Int32} (Kx1_0 : tf_K x1 = 1) (q : lx_X4_read d (tf_Cd 298 d) Q 0 [.ref (259), .ref (x1), .int (x2), tf_z, tf_z] [] h) : tf_Cd 298 (d + 1) 222 [.ref (259), .ref (x1), .int (x2)] h Q := by
  obtain ⟨Bx1, Kx1_1, Nx1_1⟩ := tn_page Kx1_0
  exact ⟨⟨Nat.le_of_ble_eq_true rfl, Or.inr ⟨rfl, (by decide)⟩⟩, q⟩
set_option maxRecDepth 100000 in
theorem go_X4_read_25 {dd : Nat} {C : tf_C} {Q : tf_Q} {h : LH} {x1 : Nat} {x2 : Int32} (Kx1_0 : tf_K x1 = 1) (q : lx_X4_read dd C Q 30 [.ref (259), .ref (x1), .int (x2), .int (1), .int (0)] [] h) : lx_X4_read dd C Q 25 [.ref (259), .ref (x1), .int (x2), tf_z, tf_z] [] h := by
  obtain ⟨Bx1, Kx1_1, Nx1_1⟩ := tn_page Kx1_0
  refine tf_LW_go ?_
  exact q
set_option maxRecDepth 100000 in
theorem go_X4_read_30 {dd : Nat} {C : tf_C} {Q : tf_Q} {h : LH} {x1 : Nat} {x2 : Int32} {x3 : Int32} {x4 : Int32} (Kx1_0 : tf_K x1 = 1) (q : ((80 : Int32) ≤ x4 → lx_X4_read dd C Q 61 [.ref (259), .ref (x1), .int (x2), .int (x3), .int (x4)] [] h) ∧ (¬ (80 : Int32) ≤ x4 → (x3 = (0 : Int32) → lx_X4_read dd C Q 61 [.ref (259), .ref (x1), .int (x2), .int (x3), .int (x4)] [] h) ∧ (¬ x3 = (0 : Int32) → ((h.1 259 8) = (0 : Int32) → lx_X4_read dd C Q 61 [.ref (259), .ref (x1), .int (x2), .int (x3), .int (x4)] [] h) ∧ (¬ (h.1 259 8) = (0 : Int32) → C 223 [.ref (259), .ref (x1), .int (x2)] h (fun r g => lx_X4_read dd C Q 54 [.ref (259), .ref (x1), .int (x2), .int (x3), .int (x4)] (r :: []) g))))) : lx_X4_read dd C Q 30 [.ref (259), .ref (x1), .int (x2), .int (x3), .int (x4)] [] h := by
  obtain ⟨Bx1, Kx1_1, Nx1_1⟩ := tn_page Kx1_0
  refine tf_LW_go ?_
  exact ⟨q.1, fun c3 => ⟨(q.2 c3).1, fun c2 => ⟨⟨(by first | rfl | trivial), (by decide)⟩, ⟨((q.2 c3).2 c2).1, fun c1 => ⟨Nat.le_of_ble_eq_true rfl, Nat.le_of_ble_eq_true rfl, (((q.2 c3).2 c2).2 c1)⟩⟩⟩⟩⟩
set_option maxRecDepth 100000 in
theorem go_X4_read_54 {dd : Nat} {C : tf_C} {Q : tf_Q} {h : LH} {x1 : Nat} {x2 : Int32} {x3 : Int32} {x4 : Int32} {y0 : Int32} (Kx1_0 : tf_K x1 = 1) (q : lx_X4_read dd C Q 30 [.ref (259), .ref (x1), .int (x2), .int (y0), .int (x4 + 1)] [] h) : lx_X4_read dd C Q 54 [.ref (259), .ref (x1), .int (x2), .int (x3), .int (x4)] [.int (y0)] h := by
  obtain ⟨Bx1, Kx1_1, Nx1_1⟩ := tn_page Kx1_0
  refine tf_LW_go ?_
  exact q
set_option maxRecDepth 100000 in
theorem go_X4_read_61 {dd : Nat} {C : tf_C} {Q : tf_Q} {h : LH} {x1 : Nat} {x2 : Int32} {x3 : Int32} {x4 : Int32} (Kx1_0 : tf_K x1 = 1) (q : (x3 = (0 : Int32) → lx_X4_read dd C Q 72 [.ref (259), .ref (x1), .int (x2), .int (x3), .int (x4)] [] h) ∧ (¬ x3 = (0 : Int32) → ((h.1 259 8) = (0 : Int32) → lx_X4_read dd C Q 81 [.ref (259), .ref (x1), .int (x2), .int (x3), .int (x4)] [] h) ∧ (¬ (h.1 259 8) = (0 : Int32) → lx_X4_read dd C Q 72 [.ref (259), .ref (x1), .int (x2), .int (x3), .int (x4)] [] h))) : lx_X4_read dd C Q 61 [.ref (259), .ref (x1), .int (x2), .int (x3), .int (x4)] [] h := by
  obtain ⟨Bx1, Kx1_1, Nx1_1⟩ := tn_page Kx1_0
  refine tf_LW_go ?_
  exact ⟨q.1, fun c2 => ⟨⟨(by first | rfl | trivial), (by decide)⟩, ⟨(q.2 c2).1, fun c1 => ((q.2 c2).2 c1)⟩⟩⟩
set_option maxRecDepth 100000 in
theorem go_X4_read_72 {dd : Nat} {C : tf_C} {Q : tf_Q} {h : LH} {x1 : Nat} {x2 : Int32} {x3 : Int32} {x4 : Int32} (Kx1_0 : tf_K x1 = 1) (q : C 224 [.ref (259), .int (1), .int (h.1 259 9)] h (fun r g => lx_X4_read dd C Q 81 [.ref (259), .ref (x1), .int (x2), .int (x3), .int (x4)] [] g)) : lx_X4_read dd C Q 72 [.ref (259), .ref (x1), .int (x2), .int (x3), .int (x4)] [] h := by
  obtain ⟨Bx1, Kx1_1, Nx1_1⟩ := tn_page Kx1_0
  refine tf_LW_go ?_
  exact ⟨⟨(by first | rfl | trivial), (by decide)⟩, ⟨Nat.le_of_ble_eq_true rfl, Nat.le_of_ble_eq_true rfl, q⟩⟩
set_option maxRecDepth 100000 in
theorem go_X4_read_81 {dd : Nat} {C : tf_C} {Q : tf_Q} {h : LH} {x1 : Nat} {x2 : Int32} {x3 : Int32} {x4 : Int32} (Kx1_0 : tf_K x1 = 1) (q : Q tf_z h) : lx_X4_read dd C Q 81 [.ref (259), .ref (x1), .int (x2), .int (x3), .int (x4)] [] h := by
  obtain ⟨Bx1, Kx1_1, Nx1_1⟩ := tn_page Kx1_0
  refine tf_LW_go ?_
  exact ⟨(by first | rfl | trivial), q⟩
abbrev lx_X4_readLine (dd : Nat) (C : tf_C) (Q : tf_Q) : tf_X := tf_LW 298 C (tf_F 3) (tf_M 3) (tf_I 3) (tf_Eg 298 dd 223) 2 tb_X4_readLine Q
set_option maxRecDepth 100000 in
theorem go_X4_readLine_0 {dd : Nat} {C : tf_C} {Q : tf_Q} {h : LH} {x1 : Nat} {x2 : Int32} (Kx1_0 : tf_K x1 = 1) (q : ((h.1 259 8) = (1 : Int32) → C 227 [.ref (259), .ref (x1), .int (x2)] h (fun r g => lx_X4_readLine dd C Q 14 [.ref (259), .ref (x1), .int (x2), tf_z, tf_z, tf_z] (r :: []) g)) ∧ (¬ (h.1 259 8) = (1 : Int32) → lx_X4_readLine dd C Q 17 [.ref (259), .ref (x1), .int (x2), tf_z, tf_z, tf_z] [] h)) : lx_X4_readLine dd C Q 0 [.ref (259), .ref (x1), .int (x2), tf_z, tf_z, tf_z] [] h := by
  obtain ⟨Bx1, Kx1_1, Nx1_1⟩ := tn_page Kx1_0
  refine tf_LW_go ?_
  exact ⟨⟨(by first | rfl | trivial), (by decide)⟩, ⟨fun c1 => ⟨Nat.le_of_ble_eq_true rfl, Nat.le_of_ble_eq_true rfl, (q.1 c1)⟩, q.2⟩⟩
theorem en_X4_readLine {d : Nat} {Q : tf_Q} {h : LH} {x1 : Nat} {x2 : Int32} (Kx1_0 : tf_K x1 = 1) (q : lx_X4_readLine d (tf_Cd 298 d) Q 0 [.ref (259), .ref (x1), .int (x2), tf_z, tf_z, tf_z] [] h) : tf_Cd 298 (d + 1) 223 [.ref (259), .ref (x1), .int (x2)] h Q := by
  obtain ⟨Bx1, Kx1_1, Nx1_1⟩ := tn_page Kx1_0
  exact ⟨⟨Nat.le_of_ble_eq_true rfl, Or.inr ⟨rfl, (by decide)⟩⟩, q⟩
set_option maxRecDepth 100000 in
theorem go_X4_readLine_14 {dd : Nat} {C : tf_C} {Q : tf_Q} {h : LH} {x1 : Nat} {x2 : Int32} {y0 : Nat} (Kx1_0 : tf_K x1 = 1) (q : lx_X4_readLine dd C Q 18 [.ref (259), .ref (x1), .int (x2), tf_z, tf_z, tf_z] [.ref (400 + y0)] h) : lx_X4_readLine dd C Q 14 [.ref (259), .ref (x1), .int (x2), tf_z, tf_z, tf_z] [.ref (400 + y0)] h := by
  obtain ⟨Bx1, Kx1_1, Nx1_1⟩ := tn_page Kx1_0
  refine tf_LW_go ?_
  exact q
set_option maxRecDepth 100000 in
theorem go_X4_readLine_17 {dd : Nat} {C : tf_C} {Q : tf_Q} {h : LH} {x1 : Nat} {x2 : Int32} (Kx1_0 : tf_K x1 = 1) (q : lx_X4_readLine dd C Q 18 [.ref (259), .ref (x1), .int (x2), tf_z, tf_z, tf_z] [.null] h) : lx_X4_readLine dd C Q 17 [.ref (259), .ref (x1), .int (x2), tf_z, tf_z, tf_z] [] h := by
  obtain ⟨Bx1, Kx1_1, Nx1_1⟩ := tn_page Kx1_0
  refine tf_LW_go ?_
  exact q
set_option maxRecDepth 100000 in
theorem go_X4_readLine_32 {dd : Nat} {C : tf_C} {Q : tf_Q} {h : LH} {x1 : Nat} {x2 : Int32} {x3 : Nat} (Kx1_0 : tf_K x1 = 1) (q : Q (.int (0)) h) : lx_X4_readLine dd C Q 32 [.ref (259), .ref (x1), .int (x2), .ref (400 + x3), tf_z, tf_z] [] h := by
  obtain ⟨Bx1, Kx1_1, Nx1_1⟩ := tn_page Kx1_0
  refine tf_LW_go ?_
  exact ⟨(by first | rfl | trivial), q⟩
set_option maxRecDepth 100000 in
theorem go_X4_readLine_34 {dd : Nat} {C : tf_C} {Q : tf_Q} {h : LH} {x1 : Nat} {x2 : Int32} {x3 : Nat} (Kx1_0 : tf_K x1 = 1) (q : (vp_in (h.1 259 0) 80 ∧ x3 < 15) ∧ (vp_in ((tf_up h.1 260 (h.1 259 0 : Int32).toNatClampNeg (nI x3)) 259 0) 80) ∧ C 225 [.ref (259), .ref (x1)] (tf_up (tf_up h.1 260 (h.1 259 0 : Int32).toNatClampNeg (nI x3)) 261 ((tf_up h.1 260 (h.1 259 0 : Int32).toNatClampNeg (nI x3)) 259 0 : Int32).toNatClampNeg ((tf_up h.1 260 (h.1 259 0 : Int32).toNatClampNeg (nI x3)) 259 9), h.2) (fun r g => lx_X4_readLine dd C Q 62 [.ref (259), .ref (x1), .int (x2), .ref (400 + x3), tf_z, tf_z] [] g)) : lx_X4_readLine dd C Q 34 [.ref (259), .ref (x1), .int (x2), .ref (400 + x3), tf_z, tf_z] [] h := by
  obtain ⟨Bx1, Kx1_1, Nx1_1⟩ := tn_page Kx1_0
  refine tf_LW_go ?_
  exact ⟨⟨(by first | rfl | trivial), (by decide)⟩, ⟨⟨(by first | rfl | trivial), (by decide)⟩, ⟨rfl, x3, q.1.2, rfl, ⟨rfl, by decide, q.1.1⟩, ⟨⟨(by first | rfl | trivial), (by decide)⟩, ⟨⟨(by first | rfl | trivial), (by decide)⟩, ⟨⟨(by first | rfl | trivial), (by decide)⟩, ⟨⟨(by first | rfl | trivial), (by decide), q.2.1⟩, ⟨Nat.le_of_ble_eq_true rfl, Nat.le_of_ble_eq_true rfl, q.2.2⟩⟩⟩⟩⟩⟩⟩⟩
set_option maxRecDepth 100000 in
theorem go_X4_readLine_62 {dd : Nat} {C : tf_C} {Q : tf_Q} {h : LH} {x1 : Nat} {x2 : Int32} {x3 : Nat} (Kx1_0 : tf_K x1 = 1) (q : lx_X4_readLine dd C Q 65 [.ref (259), .ref (x1), .int (x2), .ref (400 + x3), .int (0), tf_z] [] h) : lx_X4_readLine dd C Q 62 [.ref (259), .ref (x1), .int (x2), .ref (400 + x3), tf_z, tf_z] [] h := by
  obtain ⟨Bx1, Kx1_1, Nx1_1⟩ := tn_page Kx1_0
  refine tf_LW_go ?_
  exact q
set_option maxRecDepth 100000 in
theorem go_X4_readLine_65 {dd : Nat} {C : tf_C} {Q : tf_Q} {h : LH} {x1 : Nat} {x2 : Int32} {x3 : Nat} {x4 : Int32} {x5 : Value} (Kx1_0 : tf_K x1 = 1) (q : (x3 < 15) ∧ lx_X4_readLine dd C Q 72 [.ref (259), .ref (x1), .int (x2), .ref (400 + x3), .int (x4), x5] [.int (if x2 = (0 : Int32) then tv_g.getD x3 0 else tv_o.getD x3 0), .int (x4)] h) : lx_X4_readLine dd C Q 65 [.ref (259), .ref (x1), .int (x2), .ref (400 + x3), .int (x4), x5] [] h := by
  obtain ⟨Bx1, Kx1_1, Nx1_1⟩ := tn_page Kx1_0
  refine tf_LW_go ?_
  exact ⟨rfl, x3, q.1, rfl, Nat.le_of_ble_eq_true rfl, q.2⟩
set_option maxRecDepth 100000 in
theorem go_X4_readLine_72 {dd : Nat} {C : tf_C} {Q : tf_Q} {h : LH} {x1 : Nat} {x2 : Int32} {x3 : Nat} {x4 : Int32} {x5 : Value} {y0 : Int32} {y1 : Int32} (Kx1_0 : tf_K x1 = 1) (q : (y1 ≤ y0 → lx_X4_readLine dd C Q 130 [.ref (259), .ref (x1), .int (x2), .ref (400 + x3), .int (x4), x5] [] h) ∧ (¬ y1 ≤ y0 → ((h.1 259 8) = (2 : Int32) → lx_X4_readLine dd C Q 85 [.ref (259), .ref (x1), .int (x2), .ref (400 + x3), .int (x4), x5] [] h) ∧ (¬ (h.1 259 8) = (2 : Int32) → Q (.int (0)) h))) : lx_X4_readLine dd C Q 72 [.ref (259), .ref (x1), .int (x2), .ref (400 + x3), .int (x4), x5] [.int (y1), .int (y0)] h := by
  obtain ⟨Bx1, Kx1_1, Nx1_1⟩ := tn_page Kx1_0
  refine tf_LW_go ?_
  exact ⟨q.1, fun c2 => ⟨⟨(by first | rfl | trivial), (by decide)⟩, ⟨(q.2 c2).1, fun c1 => ⟨(by first | rfl | trivial), ((q.2 c2).2 c1)⟩⟩⟩⟩
set_option maxRecDepth 100000 in
theorem go_X4_readLine_85 {dd : Nat} {C : tf_C} {Q : tf_Q} {h : LH} {x1 : Nat} {x2 : Int32} {x3 : Nat} {x4 : Int32} {x5 : Value} (Kx1_0 : tf_K x1 = 1) (q : C 229 [.ref (259), .ref (x1)] h (fun r g => lx_X4_readLine dd C Q 107 [.ref (259), .ref (x1), .int (x2), .ref (400 + x3), .int (x4), .int (((h.1 259 0) * 4) + x4)] (r :: [.int (((h.1 259 0) * 4) + x4), .ref (262)]) g)) : lx_X4_readLine dd C Q 85 [.ref (259), .ref (x1), .int (x2), .ref (400 + x3), .int (x4), x5] [] h := by
  obtain ⟨Bx1, Kx1_1, Nx1_1⟩ := tn_page Kx1_0
  refine tf_LW_go ?_
  exact ⟨⟨(by first | rfl | trivial), (by decide)⟩, ⟨⟨(by first | rfl | trivial), (by decide)⟩, ⟨Nat.le_of_ble_eq_true rfl, Nat.le_of_ble_eq_true rfl, q⟩⟩⟩
set_option maxRecDepth 100000 in
theorem go_X4_readLine_107 {dd : Nat} {C : tf_C} {Q : tf_Q} {h : LH} {x1 : Nat} {x2 : Int32} {x3 : Nat} {x4 : Int32} {x5 : Int32} {y0 ny0 : Nat} {y1 : Int32} {y2 : Int32} (Kx1_0 : tf_K x1 = 1) (Ky0_0 : tf_K y0 = 8) (Ny0_0 : tf_N y0 = ny0) (By0 : y0 < 298) (q : (vp_in y1 ny0) ∧ (vp_in x5 320) ∧ C 225 [.ref (259), .ref (x1)] (tf_up (tf_up h.1 y0 (y1 : Int32).toNatClampNeg y2) 263 (x5 : Int32).toNatClampNeg ((tf_up h.1 y0 (y1 : Int32).toNatClampNeg y2) 259 9), h.2) (fun r g => lx_X4_readLine dd C Q 124 [.ref (259), .ref (x1), .int (x2), .ref (400 + x3), .int (x4), .int (x5)] [] g)) : lx_X4_readLine dd C Q 107 [.ref (259), .ref (x1), .int (x2), .ref (400 + x3), .int (x4), .int (x5)] [.int (y2), .int (y1), .ref (y0)] h := by
  obtain ⟨Bx1, Kx1_1, Nx1_1⟩ := tn_page Kx1_0
  refine tf_LW_go ?_
  show (tf_K y0 = 8 ∧ y0 < 298 ∧ vp_in y1 (tf_N y0)) ∧ (tf_K 259 = 3 ∧ 259 < 298) ∧ (tf_K 259 = 3 ∧ 259 < 298) ∧ (tf_K 263 = 8 ∧ 263 < 298 ∧ vp_in x5 320) ∧ 2 ≤ 2 ∧ 0 ≤ 8 ∧ C 225 [.ref (259), .ref (x1)] (tf_up (tf_up h.1 y0 (y1 : Int32).toNatClampNeg y2) 263 (x5 : Int32).toNatClampNeg ((tf_up h.1 y0 (y1 : Int32).toNatClampNeg y2) 259 9), h.2) (fun r g => lx_X4_readLine dd C Q 124 [.ref (259), .ref (x1), .int (x2), .ref (400 + x3), .int (x4), .int (x5)] [] g)
  try simp only [Ny0_0]
  exact ⟨⟨Ky0_0, (show y0 < 298 by omega), q.1⟩, ⟨⟨(by first | rfl | trivial), (by decide)⟩, ⟨⟨(by first | rfl | trivial), (by decide)⟩, ⟨⟨(by first | rfl | trivial), (by decide), q.2.1⟩, ⟨Nat.le_of_ble_eq_true rfl, Nat.le_of_ble_eq_true rfl, q.2.2⟩⟩⟩⟩⟩
set_option maxRecDepth 100000 in
theorem go_X4_readLine_124 {dd : Nat} {C : tf_C} {Q : tf_Q} {h : LH} {x1 : Nat} {x2 : Int32} {x3 : Nat} {x4 : Int32} {x5 : Int32} (Kx1_0 : tf_K x1 = 1) (q : lx_X4_readLine dd C Q 65 [.ref (259), .ref (x1), .int (x2), .ref (400 + x3), .int (x4 + 1), .int (x5)] [] h) : lx_X4_readLine dd C Q 124 [.ref (259), .ref (x1), .int (x2), .ref (400 + x3), .int (x4), .int (x5)] [] h := by
  obtain ⟨Bx1, Kx1_1, Nx1_1⟩ := tn_page Kx1_0
  refine tf_LW_go ?_
  exact q
set_option maxRecDepth 100000 in
theorem go_X4_readLine_130 {dd : Nat} {C : tf_C} {Q : tf_Q} {h : LH} {x1 : Nat} {x2 : Int32} {x3 : Nat} {x4 : Int32} {x5 : Value} (Kx1_0 : tf_K x1 = 1) (q : ((h.1 259 8) = (3 : Int32) → lx_X4_readLine dd C Q 140 [.ref (259), .ref (x1), .int (x2), .ref (400 + x3), .int (x4), x5] [] h) ∧ (¬ (h.1 259 8) = (3 : Int32) → Q (.int (0)) h)) : lx_X4_readLine dd C Q 130 [.ref (259), .ref (x1), .int (x2), .ref (400 + x3), .int (x4), x5] [] h := by
  obtain ⟨Bx1, Kx1_1, Nx1_1⟩ := tn_page Kx1_0
  refine tf_LW_go ?_
  exact ⟨⟨(by first | rfl | trivial), (by decide)⟩, ⟨q.1, fun c1 => ⟨(by first | rfl | trivial), (q.2 c1)⟩⟩⟩
set_option maxRecDepth 100000 in
theorem go_X4_readLine_140 {dd : Nat} {C : tf_C} {Q : tf_Q} {h : LH} {x1 : Nat} {x2 : Int32} {x3 : Nat} {x4 : Int32} {x5 : Value} (Kx1_0 : tf_K x1 = 1) (q : C 225 [.ref (259), .ref (x1)] h (fun r g => lx_X4_readLine dd C Q 145 [.ref (259), .ref (x1), .int (x2), .ref (400 + x3), .int (x4), x5] [] g)) : lx_X4_readLine dd C Q 140 [.ref (259), .ref (x1), .int (x2), .ref (400 + x3), .int (x4), x5] [] h := by
  obtain ⟨Bx1, Kx1_1, Nx1_1⟩ := tn_page Kx1_0
  refine tf_LW_go ?_
  exact ⟨Nat.le_of_ble_eq_true rfl, Nat.le_of_ble_eq_true rfl, q⟩
set_option maxRecDepth 100000 in
theorem go_X4_readLine_145 {dd : Nat} {C : tf_C} {Q : tf_Q} {h : LH} {x1 : Nat} {x2 : Int32} {x3 : Nat} {x4 : Int32} {x5 : Value} (Kx1_0 : tf_K x1 = 1) (q : Q (.int (1)) (tf_up h.1 259 0 ((h.1 259 0) + 1), h.2)) : lx_X4_readLine dd C Q 145 [.ref (259), .ref (x1), .int (x2), .ref (400 + x3), .int (x4), x5] [] h := by
  obtain ⟨Bx1, Kx1_1, Nx1_1⟩ := tn_page Kx1_0
  refine tf_LW_go ?_
  exact ⟨⟨(by first | rfl | trivial), (by decide)⟩, ⟨⟨(by first | rfl | trivial), (by decide), (by first | rfl | trivial)⟩, ⟨(by first | rfl | trivial), q⟩⟩⟩
abbrev lx_X4_blame (dd : Nat) (C : tf_C) (Q : tf_Q) : tf_X := tf_LW 298 C (tf_F 3) (tf_M 3) (tf_I 3) (tf_Eg 298 dd 224) 0 tb_X4_blame Q
set_option maxRecDepth 100000 in
theorem go_X4_blame_0 {dd : Nat} {C : tf_C} {Q : tf_Q} {h : LH} {x1 : Int32} {x2 : Int32} (q : ((h.1 259 1) = (0 : Int32) → lx_X4_blame dd C Q 17 [.ref (259), .int (x1), .int (x2)] [] (tf_up (tf_up h.1 259 1 x1) 259 2 x2, h.2)) ∧ (¬ (h.1 259 1) = (0 : Int32) → lx_X4_blame dd C Q 17 [.ref (259), .int (x1), .int (x2)] [] h)) : lx_X4_blame dd C Q 0 [.ref (259), .int (x1), .int (x2)] [] h := by
  refine tf_LW_go ?_
  exact ⟨⟨(by first | rfl | trivial), (by decide)⟩, ⟨fun c1 => ⟨⟨(by first | rfl | trivial), (by decide), (by first | rfl | trivial)⟩, ⟨⟨(by first | rfl | trivial), (by decide), (by first | rfl | trivial)⟩, (q.1 c1)⟩⟩, q.2⟩⟩
theorem en_X4_blame {d : Nat} {Q : tf_Q} {h : LH} {x1 : Int32} {x2 : Int32} (q : lx_X4_blame d (tf_Cd 298 d) Q 0 [.ref (259), .int (x1), .int (x2)] [] h) : tf_Cd 298 (d + 1) 224 [.ref (259), .int (x1), .int (x2)] h Q := by
  exact ⟨⟨Nat.le_of_ble_eq_true rfl, Or.inr ⟨rfl, (by decide)⟩⟩, q⟩
set_option maxRecDepth 100000 in
theorem go_X4_blame_17 {dd : Nat} {C : tf_C} {Q : tf_Q} {h : LH} {x1 : Int32} {x2 : Int32} (q : Q tf_z h) : lx_X4_blame dd C Q 17 [.ref (259), .int (x1), .int (x2)] [] h := by
  refine tf_LW_go ?_
  exact ⟨(by first | rfl | trivial), q⟩
abbrev lx_X4_findToken (dd : Nat) (C : tf_C) (Q : tf_Q) : tf_X := tf_LW 298 C (tf_F 3) (tf_M 3) (tf_I 3) (tf_Eg 298 dd 225) 0 tb_X4_findToken Q
set_option maxRecDepth 100000 in
theorem go_X4_findToken_0 {dd : Nat} {C : tf_C} {Q : tf_Q} {h : LH} {x1 : Nat} (Kx1_0 : tf_K x1 = 1) (q : lx_X4_findToken dd C Q 5 [.ref (259), .ref (x1), .int (h.1 259 10), tf_z] [] h) : lx_X4_findToken dd C Q 0 [.ref (259), .ref (x1), tf_z, tf_z] [] h := by
  obtain ⟨Bx1, Kx1_1, Nx1_1⟩ := tn_page Kx1_0
  refine tf_LW_go ?_
  exact ⟨⟨(by first | rfl | trivial), (by decide)⟩, q⟩
theorem en_X4_findToken {d : Nat} {Q : tf_Q} {h : LH} {x1 : Nat} (Kx1_0 : tf_K x1 = 1) (q : lx_X4_findToken d (tf_Cd 298 d) Q 0 [.ref (259), .ref (x1), tf_z, tf_z] [] h) : tf_Cd 298 (d + 1) 225 [.ref (259), .ref (x1)] h Q := by
  obtain ⟨Bx1, Kx1_1, Nx1_1⟩ := tn_page Kx1_0
  exact ⟨⟨Nat.le_of_ble_eq_true rfl, Or.inr ⟨rfl, (by decide)⟩⟩, q⟩
set_option maxRecDepth 100000 in
theorem go_X4_findToken_5 {dd : Nat} {C : tf_C} {Q : tf_Q} {h : LH} {x1 : Nat} {x2 : Int32} (Kx1_0 : tf_K x1 = 1) (q : ((h.1 x1 1) ≤ x2 → lx_X4_findToken dd C Q 41 [.ref (259), .ref (x1), .int (x2), tf_z] [] h) ∧ (¬ (h.1 x1 1) ≤ x2 → (vp_in x2 400) ∧ ((h.1 (x1 + 1) (x2 : Int32).toNatClampNeg) = (32 : Int32) → lx_X4_findToken dd C Q 35 [.ref (259), .ref (x1), .int (x2), tf_z] [] h) ∧ (¬ (h.1 (x1 + 1) (x2 : Int32).toNatClampNeg) = (32 : Int32) → (vp_in x2 400) ∧ ((h.1 (x1 + 1) (x2 : Int32).toNatClampNeg) = (10 : Int32) → lx_X4_findToken dd C Q 35 [.ref (259), .ref (x1), .int (x2), tf_z] [] h) ∧ (¬ (h.1 (x1 + 1) (x2 : Int32).toNatClampNeg) = (10 : Int32) → lx_X4_findToken dd C Q 41 [.ref (259), .ref (x1), .int (x2), tf_z] [] h)))) : lx_X4_findToken dd C Q 5 [.ref (259), .ref (x1), .int (x2), tf_z] [] h := by
  obtain ⟨Bx1, Kx1_1, Nx1_1⟩ := tn_page Kx1_0
  refine tf_LW_go ?_
  show (tf_K x1 = 1 ∧ x1 < 298) ∧ ((h.1 x1 1) ≤ x2 → lx_X4_findToken dd C Q 41 [.ref (259), .ref (x1), .int (x2), tf_z] [] h) ∧ (¬ (h.1 x1 1) ≤ x2 → (tf_K x1 = 1 ∧ x1 < 298) ∧ (tf_K (tf_R x1 0) = 9 ∧ (tf_R x1 0) < 298 ∧ vp_in x2 (tf_N (tf_R x1 0))) ∧ ((h.1 (tf_R x1 0) (x2 : Int32).toNatClampNeg) = (32 : Int32) → lx_X4_findToken dd C Q 35 [.ref (259), .ref (x1), .int (x2), tf_z] [] h) ∧ (¬ (h.1 (tf_R x1 0) (x2 : Int32).toNatClampNeg) = (32 : Int32) → (tf_K x1 = 1 ∧ x1 < 298) ∧ (tf_K (tf_R x1 0) = 9 ∧ (tf_R x1 0) < 298 ∧ vp_in x2 (tf_N (tf_R x1 0))) ∧ ((h.1 (tf_R x1 0) (x2 : Int32).toNatClampNeg) = (10 : Int32) → lx_X4_findToken dd C Q 35 [.ref (259), .ref (x1), .int (x2), tf_z] [] h) ∧ (¬ (h.1 (tf_R x1 0) (x2 : Int32).toNatClampNeg) = (10 : Int32) → lx_X4_findToken dd C Q 41 [.ref (259), .ref (x1), .int (x2), tf_z] [] h)))
  try simp only [(show tf_R x1 0 = x1 + 1 by rw [tn_R1 Kx1_0]; try omega), Nx1_1]
  exact ⟨⟨Kx1_0, (show x1 < 298 by omega)⟩, ⟨q.1, fun c3 => ⟨⟨Kx1_0, (show x1 < 298 by omega)⟩, ⟨⟨Kx1_1, (show x1 + 1 < 298 by omega), (q.2 c3).1⟩, ⟨(q.2 c3).2.1, fun c2 => ⟨⟨Kx1_0, (show x1 < 298 by omega)⟩, ⟨⟨Kx1_1, (show x1 + 1 < 298 by omega), ((q.2 c3).2.2 c2).1⟩, ⟨fun c1 => (((q.2 c3).2.2 c2).2.1 c1), ((q.2 c3).2.2 c2).2.2⟩⟩⟩⟩⟩⟩⟩⟩
set_option maxRecDepth 100000 in
theorem go_X4_findToken_35 {dd : Nat} {C : tf_C} {Q : tf_Q} {h : LH} {x1 : Nat} {x2 : Int32} (Kx1_0 : tf_K x1 = 1) (q : lx_X4_findToken dd C Q 5 [.ref (259), .ref (x1), .int (x2 + 1), tf_z] [] h) : lx_X4_findToken dd C Q 35 [.ref (259), .ref (x1), .int (x2), tf_z] [] h := by
  obtain ⟨Bx1, Kx1_1, Nx1_1⟩ := tn_page Kx1_0
  refine tf_LW_go ?_
  exact q
set_option maxRecDepth 100000 in
theorem go_X4_findToken_41 {dd : Nat} {C : tf_C} {Q : tf_Q} {h : LH} {x1 : Nat} {x2 : Int32} (Kx1_0 : tf_K x1 = 1) (q : (((tf_up h.1 259 9 x2) x1 1) ≤ x2 → lx_X4_findToken dd C Q 67 [.ref (259), .ref (x1), .int (x2), tf_z] [.ref (259)] (tf_up h.1 259 9 x2, h.2)) ∧ (¬ ((tf_up h.1 259 9 x2) x1 1) ≤ x2 → (vp_in x2 400) ∧ C 226 [.int ((tf_up h.1 259 9 x2) (x1 + 1) (x2 : Int32).toNatClampNeg)] (tf_up h.1 259 9 x2, h.2) (fun r g => lx_X4_findToken dd C Q 64 [.ref (259), .ref (x1), .int (x2), tf_z] (r :: [.ref (259)]) g))) : lx_X4_findToken dd C Q 41 [.ref (259), .ref (x1), .int (x2), tf_z] [] h := by
  obtain ⟨Bx1, Kx1_1, Nx1_1⟩ := tn_page Kx1_0
  refine tf_LW_go ?_
  show (tf_K 259 = 3 ∧ 259 < 298 ∧ tf_S 3 9 = 0) ∧ (tf_K x1 = 1 ∧ x1 < 298) ∧ (((tf_up h.1 259 9 x2) x1 1) ≤ x2 → lx_X4_findToken dd C Q 67 [.ref (259), .ref (x1), .int (x2), tf_z] [.ref (259)] (tf_up h.1 259 9 x2, h.2)) ∧ (¬ ((tf_up h.1 259 9 x2) x1 1) ≤ x2 → (tf_K x1 = 1 ∧ x1 < 298) ∧ (tf_K (tf_R x1 0) = 9 ∧ (tf_R x1 0) < 298 ∧ vp_in x2 (tf_N (tf_R x1 0))) ∧ 1 ≤ 2 ∧ 1 ≤ 8 ∧ C 226 [.int ((tf_up h.1 259 9 x2) (tf_R x1 0) (x2 : Int32).toNatClampNeg)] (tf_up h.1 259 9 x2, h.2) (fun r g => lx_X4_findToken dd C Q 64 [.ref (259), .ref (x1), .int (x2), tf_z] (r :: [.ref (259)]) g))
  try simp only [(show tf_R x1 0 = x1 + 1 by rw [tn_R1 Kx1_0]; try omega), Nx1_1]
  exact ⟨⟨(by first | rfl | trivial), (by decide), (by first | rfl | trivial)⟩, ⟨⟨Kx1_0, (show x1 < 298 by omega)⟩, ⟨q.1, fun c1 => ⟨⟨Kx1_0, (show x1 < 298 by omega)⟩, ⟨⟨Kx1_1, (show x1 + 1 < 298 by omega), (q.2 c1).1⟩, ⟨Nat.le_of_ble_eq_true rfl, Nat.le_of_ble_eq_true rfl, (q.2 c1).2⟩⟩⟩⟩⟩⟩
set_option maxRecDepth 100000 in
theorem go_X4_findToken_64 {dd : Nat} {C : tf_C} {Q : tf_Q} {h : LH} {x1 : Nat} {x2 : Int32} {y1 : Int32} (Kx1_0 : tf_K x1 = 1) (q : lx_X4_findToken dd C Q 68 [.ref (259), .ref (x1), .int (x2), tf_z] [.int (y1), .ref (259)] h) : lx_X4_findToken dd C Q 64 [.ref (259), .ref (x1), .int (x2), tf_z] [.int (y1), .ref (259)] h := by
  obtain ⟨Bx1, Kx1_1, Nx1_1⟩ := tn_page Kx1_0
  refine tf_LW_go ?_
  exact q
set_option maxRecDepth 100000 in
theorem go_X4_findToken_67 {dd : Nat} {C : tf_C} {Q : tf_Q} {h : LH} {x1 : Nat} {x2 : Int32} (Kx1_0 : tf_K x1 = 1) (q : lx_X4_findToken dd C Q 68 [.ref (259), .ref (x1), .int (x2), tf_z] [.int (0), .ref (259)] h) : lx_X4_findToken dd C Q 67 [.ref (259), .ref (x1), .int (x2), tf_z] [.ref (259)] h := by
  obtain ⟨Bx1, Kx1_1, Nx1_1⟩ := tn_page Kx1_0
  refine tf_LW_go ?_
  exact q
set_option maxRecDepth 100000 in
theorem go_X4_findToken_68 {dd : Nat} {C : tf_C} {Q : tf_Q} {h : LH} {x1 : Nat} {x2 : Int32} {y1 : Int32} (Kx1_0 : tf_K x1 = 1) (q : (((tf_up h.1 259 8 y1) 259 8) = (1 : Int32) → lx_X4_findToken dd C Q 87 [.ref (259), .ref (x1), .int (x2), tf_z] [] (tf_up h.1 259 8 y1, h.2)) ∧ (¬ ((tf_up h.1 259 8 y1) 259 8) = (1 : Int32) → (((tf_up h.1 259 8 y1) 259 8) = (2 : Int32) → lx_X4_findToken dd C Q 87 [.ref (259), .ref (x1), .int (x2), tf_z] [] (tf_up h.1 259 8 y1, h.2)) ∧ (¬ ((tf_up h.1 259 8 y1) 259 8) = (2 : Int32) → lx_X4_findToken dd C Q 122 [.ref (259), .ref (x1), .int (x2), tf_z] [] (tf_up h.1 259 8 y1, h.2)))) : lx_X4_findToken dd C Q 68 [.ref (259), .ref (x1), .int (x2), tf_z] [.int (y1), .ref (259)] h := by
  obtain ⟨Bx1, Kx1_1, Nx1_1⟩ := tn_page Kx1_0
  refine tf_LW_go ?_
  exact ⟨⟨(by first | rfl | trivial), (by decide), (by first | rfl | trivial)⟩, ⟨⟨(by first | rfl | trivial), (by decide)⟩, ⟨q.1, fun c2 => ⟨⟨(by first | rfl | trivial), (by decide)⟩, ⟨fun c1 => ((q.2 c2).1 c1), (q.2 c2).2⟩⟩⟩⟩⟩
set_option maxRecDepth 100000 in
theorem go_X4_findToken_87 {dd : Nat} {C : tf_C} {Q : tf_Q} {h : LH} {x1 : Nat} {x2 : Int32} (Kx1_0 : tf_K x1 = 1) (q : lx_X4_findToken dd C Q 92 [.ref (259), .ref (x1), .int (x2), .int (h.1 259 8)] [] h) : lx_X4_findToken dd C Q 87 [.ref (259), .ref (x1), .int (x2), tf_z] [] h := by
  obtain ⟨Bx1, Kx1_1, Nx1_1⟩ := tn_page Kx1_0
  refine tf_LW_go ?_
  exact ⟨⟨(by first | rfl | trivial), (by decide)⟩, q⟩
set_option maxRecDepth 100000 in
theorem go_X4_findToken_92 {dd : Nat} {C : tf_C} {Q : tf_Q} {h : LH} {x1 : Nat} {x2 : Int32} {x3 : Int32} (Kx1_0 : tf_K x1 = 1) (q : ((h.1 x1 1) ≤ x2 → lx_X4_findToken dd C Q 119 [.ref (259), .ref (x1), .int (x2), .int (x3)] [] h) ∧ (¬ (h.1 x1 1) ≤ x2 → (vp_in x2 400) ∧ C 226 [.int (h.1 (x1 + 1) (x2 : Int32).toNatClampNeg)] h (fun r g => lx_X4_findToken dd C Q 109 [.ref (259), .ref (x1), .int (x2), .int (x3)] (r :: []) g))) : lx_X4_findToken dd C Q 92 [.ref (259), .ref (x1), .int (x2), .int (x3)] [] h := by
  obtain ⟨Bx1, Kx1_1, Nx1_1⟩ := tn_page Kx1_0
  refine tf_LW_go ?_
  show (tf_K x1 = 1 ∧ x1 < 298) ∧ ((h.1 x1 1) ≤ x2 → lx_X4_findToken dd C Q 119 [.ref (259), .ref (x1), .int (x2), .int (x3)] [] h) ∧ (¬ (h.1 x1 1) ≤ x2 → (tf_K x1 = 1 ∧ x1 < 298) ∧ (tf_K (tf_R x1 0) = 9 ∧ (tf_R x1 0) < 298 ∧ vp_in x2 (tf_N (tf_R x1 0))) ∧ 1 ≤ 1 ∧ 0 ≤ 8 ∧ C 226 [.int (h.1 (tf_R x1 0) (x2 : Int32).toNatClampNeg)] h (fun r g => lx_X4_findToken dd C Q 109 [.ref (259), .ref (x1), .int (x2), .int (x3)] (r :: []) g))
  try simp only [(show tf_R x1 0 = x1 + 1 by rw [tn_R1 Kx1_0]; try omega), Nx1_1]
  exact ⟨⟨Kx1_0, (show x1 < 298 by omega)⟩, ⟨q.1, fun c1 => ⟨⟨Kx1_0, (show x1 < 298 by omega)⟩, ⟨⟨Kx1_1, (show x1 + 1 < 298 by omega), (q.2 c1).1⟩, ⟨Nat.le_of_ble_eq_true rfl, Nat.le_of_ble_eq_true rfl, (q.2 c1).2⟩⟩⟩⟩⟩
set_option maxRecDepth 100000 in
theorem go_X4_findToken_109 {dd : Nat} {C : tf_C} {Q : tf_Q} {h : LH} {x1 : Nat} {x2 : Int32} {x3 : Int32} {y0 : Int32} (Kx1_0 : tf_K x1 = 1) (q : (y0 = x3 → lx_X4_findToken dd C Q 92 [.ref (259), .ref (x1), .int (x2 + 1), .int (x3)] [] h) ∧ (¬ y0 = x3 → lx_X4_findToken dd C Q 119 [.ref (259), .ref (x1), .int (x2), .int (x3)] [] h)) : lx_X4_findToken dd C Q 109 [.ref (259), .ref (x1), .int (x2), .int (x3)] [.int (y0)] h := by
  obtain ⟨Bx1, Kx1_1, Nx1_1⟩ := tn_page Kx1_0
  refine tf_LW_go ?_
  exact ⟨fun c1 => (q.1 c1), q.2⟩
set_option maxRecDepth 100000 in
theorem go_X4_findToken_119 {dd : Nat} {C : tf_C} {Q : tf_Q} {h : LH} {x1 : Nat} {x2 : Int32} {x3 : Int32} (Kx1_0 : tf_K x1 = 1) (q : lx_X4_findToken dd C Q 133 [.ref (259), .ref (x1), .int (x2), .int (x3)] [] h) : lx_X4_findToken dd C Q 119 [.ref (259), .ref (x1), .int (x2), .int (x3)] [] h := by
  obtain ⟨Bx1, Kx1_1, Nx1_1⟩ := tn_page Kx1_0
  refine tf_LW_go ?_
  exact q
set_option maxRecDepth 100000 in
theorem go_X4_findToken_122 {dd : Nat} {C : tf_C} {Q : tf_Q} {h : LH} {x1 : Nat} {x2 : Int32} (Kx1_0 : tf_K x1 = 1) (q : ((h.1 259 8) = (3 : Int32) → lx_X4_findToken dd C Q 133 [.ref (259), .ref (x1), .int (x2 + 1), tf_z] [] h) ∧ (¬ (h.1 259 8) = (3 : Int32) → lx_X4_findToken dd C Q 133 [.ref (259), .ref (x1), .int (x2), tf_z] [] h)) : lx_X4_findToken dd C Q 122 [.ref (259), .ref (x1), .int (x2), tf_z] [] h := by
  obtain ⟨Bx1, Kx1_1, Nx1_1⟩ := tn_page Kx1_0
  refine tf_LW_go ?_
  exact ⟨⟨(by first | rfl | trivial), (by decide)⟩, ⟨fun c1 => (q.1 c1), q.2⟩⟩
set_option maxRecDepth 100000 in
theorem go_X4_findToken_133 {dd : Nat} {C : tf_C} {Q : tf_Q} {h : LH} {x1 : Nat} {x2 : Int32} {x3 : Value} (Kx1_0 : tf_K x1 = 1) (q : (((tf_up h.1 259 10 x2) 259 8) = (2 : Int32) → ((((tf_up h.1 259 10 x2) 259 10) - ((tf_up h.1 259 10 x2) 259 9)) ≤ (2 : Int32) → lx_X4_findToken dd C Q 164 [.ref (259), .ref (x1), .int (x2), x3] [] (tf_up h.1 259 10 x2, h.2)) ∧ (¬ (((tf_up h.1 259 10 x2) 259 10) - ((tf_up h.1 259 10 x2) 259 9)) ≤ (2 : Int32) → lx_X4_findToken dd C Q 164 [.ref (259), .ref (x1), .int (x2), x3] [] (tf_up (tf_up h.1 259 10 x2) 259 8 4, h.2))) ∧ (¬ ((tf_up h.1 259 10 x2) 259 8) = (2 : Int32) → lx_X4_findToken dd C Q 164 [.ref (259), .ref (x1), .int (x2), x3] [] (tf_up h.1 259 10 x2, h.2))) : lx_X4_findToken dd C Q 133 [.ref (259), .ref (x1), .int (x2), x3] [] h := by
  obtain ⟨Bx1, Kx1_1, Nx1_1⟩ := tn_page Kx1_0
  refine tf_LW_go ?_
  exact ⟨⟨(by first | rfl | trivial), (by decide), (by first | rfl | trivial)⟩, ⟨⟨(by first | rfl | trivial), (by decide)⟩, ⟨fun c2 => ⟨⟨(by first | rfl | trivial), (by decide)⟩, ⟨⟨(by first | rfl | trivial), (by decide)⟩, ⟨(q.1 c2).1, fun c1 => ⟨⟨(by first | rfl | trivial), (by decide), (by first | rfl | trivial)⟩, ((q.1 c2).2 c1)⟩⟩⟩⟩, q.2⟩⟩⟩
set_option maxRecDepth 100000 in
theorem go_X4_findToken_164 {dd : Nat} {C : tf_C} {Q : tf_Q} {h : LH} {x1 : Nat} {x2 : Int32} {x3 : Value} (Kx1_0 : tf_K x1 = 1) (q : Q tf_z h) : lx_X4_findToken dd C Q 164 [.ref (259), .ref (x1), .int (x2), x3] [] h := by
  obtain ⟨Bx1, Kx1_1, Nx1_1⟩ := tn_page Kx1_0
  refine tf_LW_go ?_
  exact ⟨(by first | rfl | trivial), q⟩
abbrev lx_X4_kindOf (dd : Nat) (C : tf_C) (Q : tf_Q) : tf_X := tf_LW 298 C (tf_F 3) (tf_M 3) (tf_I 3) (tf_Eg 298 dd 226) 1 tb_X4_kindOf Q
set_option maxRecDepth 100000 in
theorem go_X4_kindOf_0 {dd : Nat} {C : tf_C} {Q : tf_Q} {h : LH} {x0 : Int32} (q : (x0 < (97 : Int32) → lx_X4_kindOf dd C Q 14 [.int (x0)] [] h) ∧ (¬ x0 < (97 : Int32) → ((122 : Int32) < x0 → lx_X4_kindOf dd C Q 14 [.int (x0)] [] h) ∧ (¬ (122 : Int32) < x0 → Q (.int (1)) h))) : lx_X4_kindOf dd C Q 0 [.int (x0)] [] h := by
  refine tf_LW_go ?_
  exact ⟨q.1, fun c2 => ⟨(q.2 c2).1, fun c1 => ⟨(by first | trivial | rfl), ((q.2 c2).2 c1)⟩⟩⟩
theorem en_X4_kindOf {d : Nat} {Q : tf_Q} {h : LH} {x0 : Int32} (q : lx_X4_kindOf d (tf_Cd 298 d) Q 0 [.int (x0)] [] h) : tf_Cd 298 (d + 1) 226 [.int (x0)] h Q := by
  exact ⟨⟨Nat.le_of_ble_eq_true rfl, Or.inl rfl⟩, q⟩
set_option maxRecDepth 100000 in
theorem go_X4_kindOf_14 {dd : Nat} {C : tf_C} {Q : tf_Q} {h : LH} {x0 : Int32} (q : (x0 < (48 : Int32) → lx_X4_kindOf dd C Q 28 [.int (x0)] [] h) ∧ (¬ x0 < (48 : Int32) → ((57 : Int32) < x0 → lx_X4_kindOf dd C Q 28 [.int (x0)] [] h) ∧ (¬ (57 : Int32) < x0 → Q (.int (2)) h))) : lx_X4_kindOf dd C Q 14 [.int (x0)] [] h := by
  refine tf_LW_go ?_
  exact ⟨q.1, fun c2 => ⟨(q.2 c2).1, fun c1 => ⟨(by first | trivial | rfl), ((q.2 c2).2 c1)⟩⟩⟩
set_option maxRecDepth 100000 in
theorem go_X4_kindOf_28 {dd : Nat} {C : tf_C} {Q : tf_Q} {h : LH} {x0 : Int32} (q : (x0 = (59 : Int32) → lx_X4_kindOf dd C Q 39 [.int (x0)] [.int (3)] h) ∧ (¬ x0 = (59 : Int32) → lx_X4_kindOf dd C Q 38 [.int (x0)] [] h)) : lx_X4_kindOf dd C Q 28 [.int (x0)] [] h := by
  refine tf_LW_go ?_
  exact ⟨fun c1 => (q.1 c1), q.2⟩
set_option maxRecDepth 100000 in
theorem go_X4_kindOf_38 {dd : Nat} {C : tf_C} {Q : tf_Q} {h : LH} {x0 : Int32} (q : lx_X4_kindOf dd C Q 39 [.int (x0)] [.int (4)] h) : lx_X4_kindOf dd C Q 38 [.int (x0)] [] h := by
  refine tf_LW_go ?_
  exact q
set_option maxRecDepth 100000 in
theorem go_X4_kindOf_39 {dd : Nat} {C : tf_C} {Q : tf_Q} {h : LH} {x0 : Int32} {y0 : Int32} (q : Q (.int (y0)) h) : lx_X4_kindOf dd C Q 39 [.int (x0)] [.int (y0)] h := by
  refine tf_LW_go ?_
  exact ⟨(by first | trivial | rfl), q⟩
abbrev lx_X4_verbHere (dd : Nat) (C : tf_C) (Q : tf_Q) : tf_X := tf_LW 298 C (tf_F 3) (tf_M 3) (tf_I 3) (tf_Eg 298 dd 227) 3 tb_X4_verbHere Q
set_option maxRecDepth 100000 in
theorem go_X4_verbHere_0 {dd : Nat} {C : tf_C} {Q : tf_Q} {h : LH} {x1 : Nat} {x2 : Int32} (Kx1_0 : tf_K x1 = 1) (q : lx_X4_verbHere dd C Q 2 [.ref (259), .ref (x1), .int (x2), .int (0), tf_z] [] h) : lx_X4_verbHere dd C Q 0 [.ref (259), .ref (x1), .int (x2), tf_z, tf_z] [] h := by
  obtain ⟨Bx1, Kx1_1, Nx1_1⟩ := tn_page Kx1_0
  refine tf_LW_go ?_
  exact q
theorem en_X4_verbHere {d : Nat} {Q : tf_Q} {h : LH} {x1 : Nat} {x2 : Int32} (Kx1_0 : tf_K x1 = 1) (q : lx_X4_verbHere d (tf_Cd 298 d) Q 0 [.ref (259), .ref (x1), .int (x2), tf_z, tf_z] [] h) : tf_Cd 298 (d + 1) 227 [.ref (259), .ref (x1), .int (x2)] h Q := by
  obtain ⟨Bx1, Kx1_1, Nx1_1⟩ := tn_page Kx1_0
  exact ⟨⟨Nat.le_of_ble_eq_true rfl, Or.inr ⟨rfl, (by decide)⟩⟩, q⟩
set_option maxRecDepth 100000 in
theorem go_X4_verbHere_2 {dd : Nat} {C : tf_C} {Q : tf_Q} {h : LH} {x1 : Nat} {x2 : Int32} {x3 : Int32} {x4 : Value} (Kx1_0 : tf_K x1 = 1) (q : ((15 : Int32) ≤ x3 → lx_X4_verbHere dd C Q 49 [.ref (259), .ref (x1), .int (x2), .int (x3), x4] [] h) ∧ (¬ (15 : Int32) ≤ x3 → (vp_in x3 15) ∧ lx_X4_verbHere dd C Q 23 [.ref (259), .ref (x1), .int (x2), .int (x3), .ref (400 + (x3 : Int32).toNatClampNeg)] [.int (if x2 = (0 : Int32) then tv_g.getD ((x3 : Int32).toNatClampNeg) 0 else tv_o.getD ((x3 : Int32).toNatClampNeg) 0)] h)) : lx_X4_verbHere dd C Q 2 [.ref (259), .ref (x1), .int (x2), .int (x3), x4] [] h := by
  obtain ⟨Bx1, Kx1_1, Nx1_1⟩ := tn_page Kx1_0
  refine tf_LW_go ?_
  exact ⟨rfl, ⟨rfl, rfl, ⟨q.1, fun c1 => ⟨rfl, ⟨rfl, rfl, (q.2 c1).1, ⟨rfl, ((x3 : Int32).toNatClampNeg), (tv_lt (q.2 c1).1), rfl, Nat.le_of_ble_eq_true rfl, (q.2 c1).2⟩⟩⟩⟩⟩⟩
set_option maxRecDepth 100000 in
theorem go_X4_verbHere_23 {dd : Nat} {C : tf_C} {Q : tf_Q} {h : LH} {x1 : Nat} {x2 : Int32} {x3 : Int32} {x4 : Nat} {y0 : Int32} (Kx1_0 : tf_K x1 = 1) (q : (y0 = ((-1) : Int32) → lx_X4_verbHere dd C Q 43 [.ref (259), .ref (x1), .int (x2), .int (x3), .ref (400 + x4)] [] h) ∧ (¬ y0 = ((-1) : Int32) → (x4 < 15) ∧ C 228 [.ref (259), .ref (x1), .ref (430 + x4)] h (fun r g => lx_X4_verbHere dd C Q 37 [.ref (259), .ref (x1), .int (x2), .int (x3), .ref (400 + x4)] (r :: []) g))) : lx_X4_verbHere dd C Q 23 [.ref (259), .ref (x1), .int (x2), .int (x3), .ref (400 + x4)] [.int (y0)] h := by
  obtain ⟨Bx1, Kx1_1, Nx1_1⟩ := tn_page Kx1_0
  refine tf_LW_go ?_
  exact ⟨q.1, fun c1 => ⟨rfl, x4, (q.2 c1).1, rfl, ⟨Nat.le_of_ble_eq_true rfl, Nat.le_of_ble_eq_true rfl, (q.2 c1).2⟩⟩⟩
set_option maxRecDepth 100000 in
theorem go_X4_verbHere_37 {dd : Nat} {C : tf_C} {Q : tf_Q} {h : LH} {x1 : Nat} {x2 : Int32} {x3 : Int32} {x4 : Nat} {y0 : Int32} (Kx1_0 : tf_K x1 = 1) (q : (y0 = (0 : Int32) → lx_X4_verbHere dd C Q 43 [.ref (259), .ref (x1), .int (x2), .int (x3), .ref (400 + x4)] [] h) ∧ (¬ y0 = (0 : Int32) → Q (.ref (400 + x4)) h)) : lx_X4_verbHere dd C Q 37 [.ref (259), .ref (x1), .int (x2), .int (x3), .ref (400 + x4)] [.int (y0)] h := by
  obtain ⟨Bx1, Kx1_1, Nx1_1⟩ := tn_page Kx1_0
  refine tf_LW_go ?_
  exact ⟨q.1, fun c1 => ⟨rfl, (q.2 c1)⟩⟩
set_option maxRecDepth 100000 in
theorem go_X4_verbHere_43 {dd : Nat} {C : tf_C} {Q : tf_Q} {h : LH} {x1 : Nat} {x2 : Int32} {x3 : Int32} {x4 : Nat} (Kx1_0 : tf_K x1 = 1) (q : lx_X4_verbHere dd C Q 2 [.ref (259), .ref (x1), .int (x2), .int (x3 + 1), .ref (400 + x4)] [] h) : lx_X4_verbHere dd C Q 43 [.ref (259), .ref (x1), .int (x2), .int (x3), .ref (400 + x4)] [] h := by
  obtain ⟨Bx1, Kx1_1, Nx1_1⟩ := tn_page Kx1_0
  refine tf_LW_go ?_
  exact q
set_option maxRecDepth 100000 in
theorem go_X4_verbHere_49 {dd : Nat} {C : tf_C} {Q : tf_Q} {h : LH} {x1 : Nat} {x2 : Int32} {x3 : Int32} {x4 : Value} (Kx1_0 : tf_K x1 = 1) (q : Q (.null) h) : lx_X4_verbHere dd C Q 49 [.ref (259), .ref (x1), .int (x2), .int (x3), x4] [] h := by
  obtain ⟨Bx1, Kx1_1, Nx1_1⟩ := tn_page Kx1_0
  refine tf_LW_go ?_
  exact ⟨rfl, q⟩
abbrev lx_X4_isHere (dd : Nat) (C : tf_C) (Q : tf_Q) : tf_X := tf_LW 298 C (tf_F 3) (tf_M 3) (tf_I 3) (tf_Eg 298 dd 228) 2 tb_X4_isHere Q
set_option maxRecDepth 100000 in
theorem go_X4_isHere_0 {dd : Nat} (hd1 : 1 ≤ dd) (hd3 : 3 ≤ dd) {C : tf_C} {Q : tf_Q} {h : LH} {x1 : Nat} {x2 : Nat} (Kx1_0 : tf_K x1 = 1) (q : (x2 < 15) ∧ lx_X4_isHere dd C Q 4 [.ref (259), .ref (x1), .ref (430 + x2), tf_z] [.int (nI (tv_len.getD x2 0))] h) : lx_X4_isHere dd C Q 0 [.ref (259), .ref (x1), .ref (430 + x2), tf_z] [] h := by
  obtain ⟨Bx1, Kx1_1, Nx1_1⟩ := tn_page Kx1_0
  refine tf_LW_go ?_
  exact ⟨rfl, x2, q.1, rfl, ⟨Nat.le_of_ble_eq_true rfl, hd1⟩, q.2⟩
theorem en_X4_isHere {d : Nat} {Q : tf_Q} {h : LH} {x1 : Nat} {x2 : Nat} (Kx1_0 : tf_K x1 = 1) (q : lx_X4_isHere d (tf_Cd 298 d) Q 0 [.ref (259), .ref (x1), .ref (430 + x2), tf_z] [] h) : tf_Cd 298 (d + 1) 228 [.ref (259), .ref (x1), .ref (430 + x2)] h Q := by
  obtain ⟨Bx1, Kx1_1, Nx1_1⟩ := tn_page Kx1_0
  exact ⟨⟨Nat.le_of_ble_eq_true rfl, Or.inr ⟨rfl, (by decide)⟩⟩, q⟩
set_option maxRecDepth 100000 in
theorem go_X4_isHere_4 {dd : Nat} (hd1 : 1 ≤ dd) (hd3 : 3 ≤ dd) {C : tf_C} {Q : tf_Q} {h : LH} {x1 : Nat} {x2 : Nat} {y0 : Int32} (Kx1_0 : tf_K x1 = 1) (q : (y0 = ((h.1 259 10) - (h.1 259 9)) → lx_X4_isHere dd C Q 18 [.ref (259), .ref (x1), .ref (430 + x2), tf_z] [] h) ∧ (¬ y0 = ((h.1 259 10) - (h.1 259 9)) → Q (.int (0)) h)) : lx_X4_isHere dd C Q 4 [.ref (259), .ref (x1), .ref (430 + x2), tf_z] [.int (y0)] h := by
  obtain ⟨Bx1, Kx1_1, Nx1_1⟩ := tn_page Kx1_0
  refine tf_LW_go ?_
  exact ⟨⟨(by first | rfl | trivial), (by decide)⟩, ⟨⟨(by first | rfl | trivial), (by decide)⟩, ⟨q.1, fun c1 => ⟨(by first | rfl | trivial), (q.2 c1)⟩⟩⟩⟩
set_option maxRecDepth 100000 in
theorem go_X4_isHere_18 {dd : Nat} (hd1 : 1 ≤ dd) (hd3 : 3 ≤ dd) {C : tf_C} {Q : tf_Q} {h : LH} {x1 : Nat} {x2 : Nat} (Kx1_0 : tf_K x1 = 1) (q : lx_X4_isHere dd C Q 20 [.ref (259), .ref (x1), .ref (430 + x2), .int (0)] [] h) : lx_X4_isHere dd C Q 18 [.ref (259), .ref (x1), .ref (430 + x2), tf_z] [] h := by
  obtain ⟨Bx1, Kx1_1, Nx1_1⟩ := tn_page Kx1_0
  refine tf_LW_go ?_
  exact q
set_option maxRecDepth 100000 in
theorem go_X4_isHere_20 {dd : Nat} (hd1 : 1 ≤ dd) (hd3 : 3 ≤ dd) {C : tf_C} {Q : tf_Q} {h : LH} {x1 : Nat} {x2 : Nat} {x3 : Int32} (Kx1_0 : tf_K x1 = 1) (q : (x2 < 15) ∧ lx_X4_isHere dd C Q 25 [.ref (259), .ref (x1), .ref (430 + x2), .int (x3)] [.int (nI (tv_len.getD x2 0)), .int (x3)] h) : lx_X4_isHere dd C Q 20 [.ref (259), .ref (x1), .ref (430 + x2), .int (x3)] [] h := by
  obtain ⟨Bx1, Kx1_1, Nx1_1⟩ := tn_page Kx1_0
  refine tf_LW_go ?_
  exact ⟨rfl, x2, q.1, rfl, ⟨Nat.le_of_ble_eq_true rfl, hd1⟩, q.2⟩
set_option maxRecDepth 100000 in
theorem go_X4_isHere_25 {dd : Nat} (hd1 : 1 ≤ dd) (hd3 : 3 ≤ dd) {C : tf_C} {Q : tf_Q} {h : LH} {x1 : Nat} {x2 : Nat} {x3 : Int32} {y0 : Int32} {y1 : Int32} (Kx1_0 : tf_K x1 = 1) (q : (y1 ≤ y0 → lx_X4_isHere dd C Q 55 [.ref (259), .ref (x1), .ref (430 + x2), .int (x3)] [] h) ∧ (¬ y1 ≤ y0 → (x2 < 15 ∧ vp_in x3 (tv_len.getD x2 0)) ∧ lx_X4_isHere dd C Q 33 [.ref (259), .ref (x1), .ref (430 + x2), .int (x3)] [.int (tv_ch x2 (x3 : Int32).toNatClampNeg)] h)) : lx_X4_isHere dd C Q 25 [.ref (259), .ref (x1), .ref (430 + x2), .int (x3)] [.int (y1), .int (y0)] h := by
  obtain ⟨Bx1, Kx1_1, Nx1_1⟩ := tn_page Kx1_0
  refine tf_LW_go ?_
  exact ⟨q.1, fun c1 => ⟨rfl, x2, (q.2 c1).1.1, rfl, ⟨Nat.le_of_ble_eq_true rfl, hd3, (q.2 c1).1.2⟩, (q.2 c1).2⟩⟩
set_option maxRecDepth 100000 in
theorem go_X4_isHere_33 {dd : Nat} (hd1 : 1 ≤ dd) (hd3 : 3 ≤ dd) {C : tf_C} {Q : tf_Q} {h : LH} {x1 : Nat} {x2 : Nat} {x3 : Int32} {y0 : Int32} (Kx1_0 : tf_K x1 = 1) (q : (vp_in ((h.1 259 9) + x3) 400) ∧ (y0 = (h.1 (x1 + 1) ((h.1 259 9) + x3 : Int32).toNatClampNeg) → lx_X4_isHere dd C Q 49 [.ref (259), .ref (x1), .ref (430 + x2), .int (x3)] [] h) ∧ (¬ y0 = (h.1 (x1 + 1) ((h.1 259 9) + x3 : Int32).toNatClampNeg) → Q (.int (0)) h)) : lx_X4_isHere dd C Q 33 [.ref (259), .ref (x1), .ref (430 + x2), .int (x3)] [.int (y0)] h := by
  obtain ⟨Bx1, Kx1_1, Nx1_1⟩ := tn_page Kx1_0
  refine tf_LW_go ?_
  show (tf_K x1 = 1 ∧ x1 < 298) ∧ (tf_K 259 = 3 ∧ 259 < 298) ∧ (tf_K (tf_R x1 0) = 9 ∧ (tf_R x1 0) < 298 ∧ vp_in ((h.1 259 9) + x3) (tf_N (tf_R x1 0))) ∧ (y0 = (h.1 (tf_R x1 0) ((h.1 259 9) + x3 : Int32).toNatClampNeg) → lx_X4_isHere dd C Q 49 [.ref (259), .ref (x1), .ref (430 + x2), .int (x3)] [] h) ∧ (¬ y0 = (h.1 (tf_R x1 0) ((h.1 259 9) + x3 : Int32).toNatClampNeg) → tf_rb 2 (0) ∧ Q (.int (0)) h)
  try simp only [(show tf_R x1 0 = x1 + 1 by rw [tn_R1 Kx1_0]; try omega), Nx1_1]
  exact ⟨⟨Kx1_0, (show x1 < 298 by omega)⟩, ⟨⟨(by first | rfl | trivial), (by decide)⟩, ⟨⟨Kx1_1, (show x1 + 1 < 298 by omega), q.1⟩, ⟨q.2.1, fun c1 => ⟨(by first | rfl | trivial), (q.2.2 c1)⟩⟩⟩⟩⟩
set_option maxRecDepth 100000 in
theorem go_X4_isHere_49 {dd : Nat} (hd1 : 1 ≤ dd) (hd3 : 3 ≤ dd) {C : tf_C} {Q : tf_Q} {h : LH} {x1 : Nat} {x2 : Nat} {x3 : Int32} (Kx1_0 : tf_K x1 = 1) (q : lx_X4_isHere dd C Q 20 [.ref (259), .ref (x1), .ref (430 + x2), .int (x3 + 1)] [] h) : lx_X4_isHere dd C Q 49 [.ref (259), .ref (x1), .ref (430 + x2), .int (x3)] [] h := by
  obtain ⟨Bx1, Kx1_1, Nx1_1⟩ := tn_page Kx1_0
  refine tf_LW_go ?_
  exact q
set_option maxRecDepth 100000 in
theorem go_X4_isHere_55 {dd : Nat} (hd1 : 1 ≤ dd) (hd3 : 3 ≤ dd) {C : tf_C} {Q : tf_Q} {h : LH} {x1 : Nat} {x2 : Nat} {x3 : Int32} (Kx1_0 : tf_K x1 = 1) (q : Q (.int (1)) h) : lx_X4_isHere dd C Q 55 [.ref (259), .ref (x1), .ref (430 + x2), .int (x3)] [] h := by
  obtain ⟨Bx1, Kx1_1, Nx1_1⟩ := tn_page Kx1_0
  refine tf_LW_go ?_
  exact ⟨(by first | rfl | trivial), q⟩
abbrev lx_X4_numberHere (dd : Nat) (C : tf_C) (Q : tf_Q) : tf_X := tf_LW 298 C (tf_F 3) (tf_M 3) (tf_I 3) (tf_Eg 298 dd 229) 1 tb_X4_numberHere Q
set_option maxRecDepth 100000 in
theorem go_X4_numberHere_0 {dd : Nat} {C : tf_C} {Q : tf_Q} {h : LH} {x1 : Nat} (Kx1_0 : tf_K x1 = 1) (q : lx_X4_numberHere dd C Q 7 [.ref (259), .ref (x1), .int (0), .int (h.1 259 9)] [] h) : lx_X4_numberHere dd C Q 0 [.ref (259), .ref (x1), tf_z, tf_z] [] h := by
  obtain ⟨Bx1, Kx1_1, Nx1_1⟩ := tn_page Kx1_0
  refine tf_LW_go ?_
  exact ⟨⟨(by first | rfl | trivial), (by decide)⟩, q⟩
theorem en_X4_numberHere {d : Nat} {Q : tf_Q} {h : LH} {x1 : Nat} (Kx1_0 : tf_K x1 = 1) (q : lx_X4_numberHere d (tf_Cd 298 d) Q 0 [.ref (259), .ref (x1), tf_z, tf_z] [] h) : tf_Cd 298 (d + 1) 229 [.ref (259), .ref (x1)] h Q := by
  obtain ⟨Bx1, Kx1_1, Nx1_1⟩ := tn_page Kx1_0
  exact ⟨⟨Nat.le_of_ble_eq_true rfl, Or.inr ⟨rfl, (by decide)⟩⟩, q⟩
set_option maxRecDepth 100000 in
theorem go_X4_numberHere_7 {dd : Nat} {C : tf_C} {Q : tf_Q} {h : LH} {x1 : Nat} {x2 : Int32} {x3 : Int32} (Kx1_0 : tf_K x1 = 1) (q : ((h.1 259 10) ≤ x3 → lx_X4_numberHere dd C Q 36 [.ref (259), .ref (x1), .int (x2), .int (x3)] [] h) ∧ (¬ (h.1 259 10) ≤ x3 → (vp_in x3 400) ∧ lx_X4_numberHere dd C Q 7 [.ref (259), .ref (x1), .int (((x2 * 10) + (h.1 (x1 + 1) (x3 : Int32).toNatClampNeg)) - 48), .int (x3 + 1)] [] h)) : lx_X4_numberHere dd C Q 7 [.ref (259), .ref (x1), .int (x2), .int (x3)] [] h := by
  obtain ⟨Bx1, Kx1_1, Nx1_1⟩ := tn_page Kx1_0
  refine tf_LW_go ?_
  show (tf_K 259 = 3 ∧ 259 < 298) ∧ ((h.1 259 10) ≤ x3 → lx_X4_numberHere dd C Q 36 [.ref (259), .ref (x1), .int (x2), .int (x3)] [] h) ∧ (¬ (h.1 259 10) ≤ x3 → (tf_K x1 = 1 ∧ x1 < 298) ∧ (tf_K (tf_R x1 0) = 9 ∧ (tf_R x1 0) < 298 ∧ vp_in x3 (tf_N (tf_R x1 0))) ∧ lx_X4_numberHere dd C Q 7 [.ref (259), .ref (x1), .int (((x2 * 10) + (h.1 (tf_R x1 0) (x3 : Int32).toNatClampNeg)) - 48), .int (x3 + 1)] [] h)
  try simp only [(show tf_R x1 0 = x1 + 1 by rw [tn_R1 Kx1_0]; try omega), Nx1_1]
  exact ⟨⟨(by first | rfl | trivial), (by decide)⟩, ⟨q.1, fun c1 => ⟨⟨Kx1_0, (show x1 < 298 by omega)⟩, ⟨⟨Kx1_1, (show x1 + 1 < 298 by omega), (q.2 c1).1⟩, (q.2 c1).2⟩⟩⟩⟩
set_option maxRecDepth 100000 in
theorem go_X4_numberHere_36 {dd : Nat} {C : tf_C} {Q : tf_Q} {h : LH} {x1 : Nat} {x2 : Int32} {x3 : Int32} (Kx1_0 : tf_K x1 = 1) (q : Q (.int (x2)) h) : lx_X4_numberHere dd C Q 36 [.ref (259), .ref (x1), .int (x2), .int (x3)] [] h := by
  obtain ⟨Bx1, Kx1_1, Nx1_1⟩ := tn_page Kx1_0
  refine tf_LW_go ?_
  exact ⟨(by first | trivial | rfl), q⟩
abbrev lx_X4_number (dd : Nat) (C : tf_C) (Q : tf_Q) : tf_X := tf_LW 298 C (tf_F 3) (tf_M 3) (tf_I 3) (tf_Eg 298 dd 230) 1 tb_X4_number Q
set_option maxRecDepth 100000 in
theorem go_X4_number_0 {dd : Nat} {C : tf_C} {Q : tf_Q} {h : LH} {x1 : Int32} {x2 : Int32} (q : (vp_in ((x1 * 4) + x2) 320) ∧ Q (.int (h.1 262 ((x1 * 4) + x2 : Int32).toNatClampNeg)) h) : lx_X4_number dd C Q 0 [.ref (259), .int (x1), .int (x2)] [] h := by
  refine tf_LW_go ?_
  exact ⟨⟨(by first | rfl | trivial), (by decide)⟩, ⟨⟨(by first | rfl | trivial), (by decide), q.1⟩, ⟨(by first | trivial | rfl), q.2⟩⟩⟩
theorem en_X4_number {d : Nat} {Q : tf_Q} {h : LH} {x1 : Int32} {x2 : Int32} (q : lx_X4_number d (tf_Cd 298 d) Q 0 [.ref (259), .int (x1), .int (x2)] [] h) : tf_Cd 298 (d + 1) 230 [.ref (259), .int (x1), .int (x2)] h Q := by
  exact ⟨⟨Nat.le_of_ble_eq_true rfl, Or.inr ⟨rfl, (by decide)⟩⟩, q⟩
abbrev lx_X4_want (dd : Nat) (C : tf_C) (Q : tf_Q) : tf_X := tf_LW 298 C (tf_F 3) (tf_M 3) (tf_I 3) (tf_Eg 298 dd 231) 0 tb_X4_want Q
set_option maxRecDepth 100000 in
theorem go_X4_want_0 {dd : Nat} {C : tf_C} {Q : tf_Q} {h : LH} {x1 : Int32} {x2 : Int32} {x3 : Int32} {x4 : Int32} {x5 : Int32} (q : C 230 [.ref (259), .int (x1), .int (x2)] h (fun r g => lx_X4_want dd C Q 6 [.ref (259), .int (x1), .int (x2), .int (x3), .int (x4), .int (x5), tf_z] (r :: []) g)) : lx_X4_want dd C Q 0 [.ref (259), .int (x1), .int (x2), .int (x3), .int (x4), .int (x5), tf_z] [] h := by
  refine tf_LW_go ?_
  exact ⟨Nat.le_of_ble_eq_true rfl, Nat.le_of_ble_eq_true rfl, q⟩
theorem en_X4_want {d : Nat} {Q : tf_Q} {h : LH} {x1 : Int32} {x2 : Int32} {x3 : Int32} {x4 : Int32} {x5 : Int32} (q : lx_X4_want d (tf_Cd 298 d) Q 0 [.ref (259), .int (x1), .int (x2), .int (x3), .int (x4), .int (x5), tf_z] [] h) : tf_Cd 298 (d + 1) 231 [.ref (259), .int (x1), .int (x2), .int (x3), .int (x4), .int (x5)] h Q := by
  exact ⟨⟨Nat.le_of_ble_eq_true rfl, Or.inr ⟨rfl, (by decide)⟩⟩, q⟩
set_option maxRecDepth 100000 in
theorem go_X4_want_6 {dd : Nat} {C : tf_C} {Q : tf_Q} {h : LH} {x1 : Int32} {x2 : Int32} {x3 : Int32} {x4 : Int32} {x5 : Int32} {y0 : Int32} (q : (y0 < x3 → lx_X4_want dd C Q 21 [.ref (259), .int (x1), .int (x2), .int (x3), .int (x4), .int (x5), .int (y0)] [] h) ∧ (¬ y0 < x3 → (y0 ≤ x4 → lx_X4_want dd C Q 37 [.ref (259), .int (x1), .int (x2), .int (x3), .int (x4), .int (x5), .int (y0)] [] h) ∧ (¬ y0 ≤ x4 → lx_X4_want dd C Q 21 [.ref (259), .int (x1), .int (x2), .int (x3), .int (x4), .int (x5), .int (y0)] [] h))) : lx_X4_want dd C Q 6 [.ref (259), .int (x1), .int (x2), .int (x3), .int (x4), .int (x5), tf_z] [.int (y0)] h := by
  refine tf_LW_go ?_
  exact ⟨q.1, fun c2 => ⟨(q.2 c2).1, fun c1 => ((q.2 c2).2 c1)⟩⟩
set_option maxRecDepth 100000 in
theorem go_X4_want_21 {dd : Nat} {C : tf_C} {Q : tf_Q} {h : LH} {x1 : Int32} {x2 : Int32} {x3 : Int32} {x4 : Int32} {x5 : Int32} {x6 : Int32} (q : (vp_in ((x1 * 4) + x2) 320) ∧ C 224 [.ref (259), .int (x5), .int (h.1 263 ((x1 * 4) + x2 : Int32).toNatClampNeg)] h (fun r g => lx_X4_want dd C Q 37 [.ref (259), .int (x1), .int (x2), .int (x3), .int (x4), .int (x5), .int (x6)] [] g)) : lx_X4_want dd C Q 21 [.ref (259), .int (x1), .int (x2), .int (x3), .int (x4), .int (x5), .int (x6)] [] h := by
  refine tf_LW_go ?_
  exact ⟨⟨(by first | rfl | trivial), (by decide)⟩, ⟨⟨(by first | rfl | trivial), (by decide), q.1⟩, ⟨Nat.le_of_ble_eq_true rfl, Nat.le_of_ble_eq_true rfl, q.2⟩⟩⟩
set_option maxRecDepth 100000 in
theorem go_X4_want_37 {dd : Nat} {C : tf_C} {Q : tf_Q} {h : LH} {x1 : Int32} {x2 : Int32} {x3 : Int32} {x4 : Int32} {x5 : Int32} {x6 : Int32} (q : Q tf_z h) : lx_X4_want dd C Q 37 [.ref (259), .int (x1), .int (x2), .int (x3), .int (x4), .int (x5), .int (x6)] [] h := by
  refine tf_LW_go ?_
  exact ⟨(by first | rfl | trivial), q⟩
abbrev lx_X4_checkGrid (dd : Nat) (C : tf_C) (Q : tf_Q) : tf_X := tf_LW 298 C (tf_F 3) (tf_M 3) (tf_I 3) (tf_Eg 298 dd 232) 0 tb_X4_checkGrid Q
set_option maxRecDepth 100000 in
theorem go_X4_checkGrid_0 {dd : Nat} {C : tf_C} {Q : tf_Q} {h : LH} {x1 : Int32} (q : lx_X4_checkGrid dd C Q 4 [.ref (259), .int (x1), .int (0), .int (0)] [] h) : lx_X4_checkGrid dd C Q 0 [.ref (259), .int (x1), tf_z, tf_z] [] h := by
  refine tf_LW_go ?_
  exact q
theorem en_X4_checkGrid {d : Nat} {Q : tf_Q} {h : LH} {x1 : Int32} (q : lx_X4_checkGrid d (tf_Cd 298 d) Q 0 [.ref (259), .int (x1), tf_z, tf_z] [] h) : tf_Cd 298 (d + 1) 232 [.ref (259), .int (x1)] h Q := by
  exact ⟨⟨Nat.le_of_ble_eq_true rfl, Or.inr ⟨rfl, (by decide)⟩⟩, q⟩
set_option maxRecDepth 100000 in
theorem go_X4_checkGrid_4 {dd : Nat} {C : tf_C} {Q : tf_Q} {h : LH} {x1 : Int32} {x2 : Int32} {x3 : Int32} (q : ((h.1 259 0) ≤ x3 → lx_X4_checkGrid dd C Q 40 [.ref (259), .int (x1), .int (x2), .int (x3)] [] h) ∧ (¬ (h.1 259 0) ≤ x3 → C 233 [.ref (259), .int (x3), .int (x2)] h (fun r g => lx_X4_checkGrid dd C Q 18 [.ref (259), .int (x1), .int (x2), .int (x3)] [] g))) : lx_X4_checkGrid dd C Q 4 [.ref (259), .int (x1), .int (x2), .int (x3)] [] h := by
  refine tf_LW_go ?_
  exact ⟨⟨(by first | rfl | trivial), (by decide)⟩, ⟨q.1, fun c1 => ⟨Nat.le_of_ble_eq_true rfl, Nat.le_of_ble_eq_true rfl, (q.2 c1)⟩⟩⟩
set_option maxRecDepth 100000 in
theorem go_X4_checkGrid_18 {dd : Nat} {C : tf_C} {Q : tf_Q} {h : LH} {x1 : Int32} {x2 : Int32} {x3 : Int32} (q : C 235 [.ref (259), .int (x3)] h (fun r g => lx_X4_checkGrid dd C Q 24 [.ref (259), .int (x1), .int (x2), .int (x3)] (r :: [.int (x2)]) g)) : lx_X4_checkGrid dd C Q 18 [.ref (259), .int (x1), .int (x2), .int (x3)] [] h := by
  refine tf_LW_go ?_
  exact ⟨Nat.le_of_ble_eq_true rfl, Nat.le_of_ble_eq_true rfl, q⟩
set_option maxRecDepth 100000 in
theorem go_X4_checkGrid_24 {dd : Nat} {C : tf_C} {Q : tf_Q} {h : LH} {x1 : Int32} {x2 : Int32} {x3 : Int32} {y0 : Int32} {y1 : Int32} (q : (y1 = (0 : Int32) → lx_X4_checkGrid dd C Q 31 [.ref (259), .int (x1), .int (x2), .int (x3)] [.int (y0)] h) ∧ (¬ y1 = (0 : Int32) → lx_X4_checkGrid dd C Q 32 [.ref (259), .int (x1), .int (x2), .int (x3)] [.int (1), .int (y0)] h)) : lx_X4_checkGrid dd C Q 24 [.ref (259), .int (x1), .int (x2), .int (x3)] [.int (y1), .int (y0)] h := by
  refine tf_LW_go ?_
  exact ⟨q.1, fun c1 => (q.2 c1)⟩
set_option maxRecDepth 100000 in
theorem go_X4_checkGrid_31 {dd : Nat} {C : tf_C} {Q : tf_Q} {h : LH} {x1 : Int32} {x2 : Int32} {x3 : Int32} {y0 : Int32} (q : lx_X4_checkGrid dd C Q 32 [.ref (259), .int (x1), .int (x2), .int (x3)] [.int (0), .int (y0)] h) : lx_X4_checkGrid dd C Q 31 [.ref (259), .int (x1), .int (x2), .int (x3)] [.int (y0)] h := by
  refine tf_LW_go ?_
  exact q
set_option maxRecDepth 100000 in
theorem go_X4_checkGrid_32 {dd : Nat} {C : tf_C} {Q : tf_Q} {h : LH} {x1 : Int32} {x2 : Int32} {x3 : Int32} {y0 : Int32} {y1 : Int32} (q : lx_X4_checkGrid dd C Q 4 [.ref (259), .int (x1), .int (y0 + y1), .int (x3 + 1)] [] h) : lx_X4_checkGrid dd C Q 32 [.ref (259), .int (x1), .int (x2), .int (x3)] [.int (y1), .int (y0)] h := by
  refine tf_LW_go ?_
  exact q
set_option maxRecDepth 100000 in
theorem go_X4_checkGrid_40 {dd : Nat} {C : tf_C} {Q : tf_Q} {h : LH} {x1 : Int32} {x2 : Int32} {x3 : Int32} (q : ((h.1 259 1) = (0 : Int32) → C 234 [.ref (259)] h (fun r g => lx_X4_checkGrid dd C Q 51 [.ref (259), .int (x1), .int (x2), .int (x3)] [] g)) ∧ (¬ (h.1 259 1) = (0 : Int32) → lx_X4_checkGrid dd C Q 51 [.ref (259), .int (x1), .int (x2), .int (x3)] [] h)) : lx_X4_checkGrid dd C Q 40 [.ref (259), .int (x1), .int (x2), .int (x3)] [] h := by
  refine tf_LW_go ?_
  exact ⟨⟨(by first | rfl | trivial), (by decide)⟩, ⟨fun c1 => ⟨Nat.le_of_ble_eq_true rfl, Nat.le_of_ble_eq_true rfl, (q.1 c1)⟩, q.2⟩⟩
set_option maxRecDepth 100000 in
theorem go_X4_checkGrid_51 {dd : Nat} {C : tf_C} {Q : tf_Q} {h : LH} {x1 : Int32} {x2 : Int32} {x3 : Int32} (q : ((h.1 259 1) = (0 : Int32) → C 237 [.ref (259)] h (fun r g => lx_X4_checkGrid dd C Q 62 [.ref (259), .int (x1), .int (x2), .int (x3)] (r :: []) g)) ∧ (¬ (h.1 259 1) = (0 : Int32) → lx_X4_checkGrid dd C Q 71 [.ref (259), .int (x1), .int (x2), .int (x3)] [] h)) : lx_X4_checkGrid dd C Q 51 [.ref (259), .int (x1), .int (x2), .int (x3)] [] h := by
  refine tf_LW_go ?_
  exact ⟨⟨(by first | rfl | trivial), (by decide)⟩, ⟨fun c1 => ⟨Nat.le_of_ble_eq_true rfl, Nat.le_of_ble_eq_true rfl, (q.1 c1)⟩, q.2⟩⟩
set_option maxRecDepth 100000 in
theorem go_X4_checkGrid_62 {dd : Nat} {C : tf_C} {Q : tf_Q} {h : LH} {x1 : Int32} {x2 : Int32} {x3 : Int32} {y0 : Int32} (q : (y0 = (0 : Int32) → lx_X4_checkGrid dd C Q 71 [.ref (259), .int (x1), .int (x2), .int (x3)] [] h) ∧ (¬ y0 = (0 : Int32) → C 224 [.ref (259), .int (4), .int (x1)] h (fun r g => lx_X4_checkGrid dd C Q 71 [.ref (259), .int (x1), .int (x2), .int (x3)] [] g))) : lx_X4_checkGrid dd C Q 62 [.ref (259), .int (x1), .int (x2), .int (x3)] [.int (y0)] h := by
  refine tf_LW_go ?_
  exact ⟨q.1, fun c1 => ⟨Nat.le_of_ble_eq_true rfl, Nat.le_of_ble_eq_true rfl, (q.2 c1)⟩⟩
set_option maxRecDepth 100000 in
theorem go_X4_checkGrid_71 {dd : Nat} {C : tf_C} {Q : tf_Q} {h : LH} {x1 : Int32} {x2 : Int32} {x3 : Int32} (q : Q tf_z h) : lx_X4_checkGrid dd C Q 71 [.ref (259), .int (x1), .int (x2), .int (x3)] [] h := by
  refine tf_LW_go ?_
  exact ⟨(by first | rfl | trivial), q⟩
abbrev lx_X4_checkGridLine (dd : Nat) (C : tf_C) (Q : tf_Q) : tf_X := tf_LW 298 C (tf_F 3) (tf_M 3) (tf_I 3) (tf_Eg 298 dd 233) 0 tb_X4_checkGridLine Q
set_option maxRecDepth 100000 in
theorem go_X4_checkGridLine_0 {dd : Nat} {C : tf_C} {Q : tf_Q} {h : LH} {x1 : Int32} {x2 : Int32} (q : (vp_in x1 80 ∧ vp_in (h.1 260 (x1 : Int32).toNatClampNeg) 15) ∧ lx_X4_checkGridLine dd C Q 12 [.ref (259), .int (x1), .int (x2)] [.int (nI ((h.1 260 (x1 : Int32).toNatClampNeg).toNatClampNeg)), .ref (421)] h) : lx_X4_checkGridLine dd C Q 0 [.ref (259), .int (x1), .int (x2)] [] h := by
  refine tf_LW_go ?_
  exact ⟨rfl, ⟨⟨(by first | rfl | trivial), (by decide)⟩, ⟨rfl, ⟨rfl, by decide, q.1.1, q.1.2⟩, ⟨rfl, ((h.1 260 (x1 : Int32).toNatClampNeg).toNatClampNeg), (tv_lt q.1.2), rfl, Nat.le_of_ble_eq_true rfl, q.2⟩⟩⟩⟩
theorem en_X4_checkGridLine {d : Nat} {Q : tf_Q} {h : LH} {x1 : Int32} {x2 : Int32} (q : lx_X4_checkGridLine d (tf_Cd 298 d) Q 0 [.ref (259), .int (x1), .int (x2)] [] h) : tf_Cd 298 (d + 1) 233 [.ref (259), .int (x1), .int (x2)] h Q := by
  exact ⟨⟨Nat.le_of_ble_eq_true rfl, Or.inr ⟨rfl, (by decide)⟩⟩, q⟩
set_option maxRecDepth 100000 in
theorem go_X4_checkGridLine_12 {dd : Nat} {C : tf_C} {Q : tf_Q} {h : LH} {x1 : Int32} {x2 : Int32} {y1 : Int32} (q : (vp_in y1 15) ∧ (((tv_sm.getD (y1 : Int32).toNatClampNeg 0 : Int32).toInt < 1 ∨ 6 < (tv_sm.getD (y1 : Int32).toNatClampNeg 0 : Int32).toInt) → lx_X4_checkGridLine dd C Q 162 [.ref (259), .int (x1), .int (x2)] [] h) ∧ ((tv_sm.getD (y1 : Int32).toNatClampNeg 0 : Int32).toInt = 1 → lx_X4_checkGridLine dd C Q 52 [.ref (259), .int (x1), .int (x2)] [] h) ∧ ((tv_sm.getD (y1 : Int32).toNatClampNeg 0 : Int32).toInt = 2 → lx_X4_checkGridLine dd C Q 65 [.ref (259), .int (x1), .int (x2)] [] h) ∧ ((tv_sm.getD (y1 : Int32).toNatClampNeg 0 : Int32).toInt = 3 → lx_X4_checkGridLine dd C Q 65 [.ref (259), .int (x1), .int (x2)] [] h) ∧ ((tv_sm.getD (y1 : Int32).toNatClampNeg 0 : Int32).toInt = 4 → lx_X4_checkGridLine dd C Q 135 [.ref (259), .int (x1), .int (x2)] [] h) ∧ ((tv_sm.getD (y1 : Int32).toNatClampNeg 0 : Int32).toInt = 5 → lx_X4_checkGridLine dd C Q 135 [.ref (259), .int (x1), .int (x2)] [] h) ∧ ((tv_sm.getD (y1 : Int32).toNatClampNeg 0 : Int32).toInt = 6 → lx_X4_checkGridLine dd C Q 148 [.ref (259), .int (x1), .int (x2)] [] h) ∧ True) : lx_X4_checkGridLine dd C Q 12 [.ref (259), .int (x1), .int (x2)] [.int (y1), .ref (421)] h := by
  refine tf_LW_go ?_
  exact ⟨rfl, rfl, q.1, q.2⟩
set_option maxRecDepth 100000 in
theorem go_X4_checkGridLine_52 {dd : Nat} {C : tf_C} {Q : tf_Q} {h : LH} {x1 : Int32} {x2 : Int32} (q : C 231 [.ref (259), .int (x1), .int (0), .int (2), .int (7), .int (2)] h (fun r g => lx_X4_checkGridLine dd C Q 62 [.ref (259), .int (x1), .int (x2)] [] g)) : lx_X4_checkGridLine dd C Q 52 [.ref (259), .int (x1), .int (x2)] [] h := by
  refine tf_LW_go ?_
  exact ⟨Nat.le_of_ble_eq_true rfl, Nat.le_of_ble_eq_true rfl, q⟩
set_option maxRecDepth 100000 in
theorem go_X4_checkGridLine_62 {dd : Nat} {C : tf_C} {Q : tf_Q} {h : LH} {x1 : Int32} {x2 : Int32} (q : lx_X4_checkGridLine dd C Q 162 [.ref (259), .int (x1), .int (x2)] [] h) : lx_X4_checkGridLine dd C Q 62 [.ref (259), .int (x1), .int (x2)] [] h := by
  refine tf_LW_go ?_
  exact q
set_option maxRecDepth 100000 in
theorem go_X4_checkGridLine_65 {dd : Nat} {C : tf_C} {Q : tf_Q} {h : LH} {x1 : Int32} {x2 : Int32} (q : (x2 = (14 : Int32) → (vp_in x1 80) ∧ C 224 [.ref (259), .int (2), .int (h.1 261 (x1 : Int32).toNatClampNeg)] h (fun r g => lx_X4_checkGridLine dd C Q 82 [.ref (259), .int (x1), .int (x2)] [] g)) ∧ (¬ x2 = (14 : Int32) → lx_X4_checkGridLine dd C Q 82 [.ref (259), .int (x1), .int (x2)] [] h)) : lx_X4_checkGridLine dd C Q 65 [.ref (259), .int (x1), .int (x2)] [] h := by
  refine tf_LW_go ?_
  exact ⟨fun c1 => ⟨⟨(by first | rfl | trivial), (by decide)⟩, ⟨⟨(by first | rfl | trivial), (by decide), (q.1 c1).1⟩, ⟨Nat.le_of_ble_eq_true rfl, Nat.le_of_ble_eq_true rfl, (q.1 c1).2⟩⟩⟩, q.2⟩
set_option maxRecDepth 100000 in
theorem go_X4_checkGridLine_82 {dd : Nat} {C : tf_C} {Q : tf_Q} {h : LH} {x1 : Int32} {x2 : Int32} (q : C 231 [.ref (259), .int (x1), .int (0), .int (0), .int (6), .int (2)] h (fun r g => lx_X4_checkGridLine dd C Q 92 [.ref (259), .int (x1), .int (x2)] [] g)) : lx_X4_checkGridLine dd C Q 82 [.ref (259), .int (x1), .int (x2)] [] h := by
  refine tf_LW_go ?_
  exact ⟨Nat.le_of_ble_eq_true rfl, Nat.le_of_ble_eq_true rfl, q⟩
set_option maxRecDepth 100000 in
theorem go_X4_checkGridLine_92 {dd : Nat} {C : tf_C} {Q : tf_Q} {h : LH} {x1 : Int32} {x2 : Int32} (q : C 231 [.ref (259), .int (x1), .int (1), .int (0), .int (6), .int (2)] h (fun r g => lx_X4_checkGridLine dd C Q 102 [.ref (259), .int (x1), .int (x2)] [] g)) : lx_X4_checkGridLine dd C Q 92 [.ref (259), .int (x1), .int (x2)] [] h := by
  refine tf_LW_go ?_
  exact ⟨Nat.le_of_ble_eq_true rfl, Nat.le_of_ble_eq_true rfl, q⟩
set_option maxRecDepth 100000 in
theorem go_X4_checkGridLine_102 {dd : Nat} {C : tf_C} {Q : tf_Q} {h : LH} {x1 : Int32} {x2 : Int32} (q : C 230 [.ref (259), .int (x1), .int (0)] h (fun r g => lx_X4_checkGridLine dd C Q 108 [.ref (259), .int (x1), .int (x2)] (r :: []) g)) : lx_X4_checkGridLine dd C Q 102 [.ref (259), .int (x1), .int (x2)] [] h := by
  refine tf_LW_go ?_
  exact ⟨Nat.le_of_ble_eq_true rfl, Nat.le_of_ble_eq_true rfl, q⟩
set_option maxRecDepth 100000 in
theorem go_X4_checkGridLine_108 {dd : Nat} {C : tf_C} {Q : tf_Q} {h : LH} {x1 : Int32} {x2 : Int32} {y0 : Int32} (q : C 230 [.ref (259), .int (x1), .int (1)] h (fun r g => lx_X4_checkGridLine dd C Q 114 [.ref (259), .int (x1), .int (x2)] (r :: [.int (y0)]) g)) : lx_X4_checkGridLine dd C Q 108 [.ref (259), .int (x1), .int (x2)] [.int (y0)] h := by
  refine tf_LW_go ?_
  exact ⟨Nat.le_of_ble_eq_true rfl, Nat.le_of_ble_eq_true rfl, q⟩
set_option maxRecDepth 100000 in
theorem go_X4_checkGridLine_114 {dd : Nat} {C : tf_C} {Q : tf_Q} {h : LH} {x1 : Int32} {x2 : Int32} {y0 : Int32} {y1 : Int32} (q : (y0 = y1 → (vp_in ((x1 * 4) + 1) 320) ∧ C 224 [.ref (259), .int (2), .int (h.1 263 ((x1 * 4) + 1 : Int32).toNatClampNeg)] h (fun r g => lx_X4_checkGridLine dd C Q 132 [.ref (259), .int (x1), .int (x2)] [] g)) ∧ (¬ y0 = y1 → lx_X4_checkGridLine dd C Q 162 [.ref (259), .int (x1), .int (x2)] [] h)) : lx_X4_checkGridLine dd C Q 114 [.ref (259), .int (x1), .int (x2)] [.int (y1), .int (y0)] h := by
  refine tf_LW_go ?_
  exact ⟨fun c1 => ⟨⟨(by first | rfl | trivial), (by decide)⟩, ⟨⟨(by first | rfl | trivial), (by decide), (q.1 c1).1⟩, ⟨Nat.le_of_ble_eq_true rfl, Nat.le_of_ble_eq_true rfl, (q.1 c1).2⟩⟩⟩, q.2⟩
set_option maxRecDepth 100000 in
theorem go_X4_checkGridLine_132 {dd : Nat} {C : tf_C} {Q : tf_Q} {h : LH} {x1 : Int32} {x2 : Int32} (q : lx_X4_checkGridLine dd C Q 162 [.ref (259), .int (x1), .int (x2)] [] h) : lx_X4_checkGridLine dd C Q 132 [.ref (259), .int (x1), .int (x2)] [] h := by
  refine tf_LW_go ?_
  exact q
set_option maxRecDepth 100000 in
theorem go_X4_checkGridLine_135 {dd : Nat} {C : tf_C} {Q : tf_Q} {h : LH} {x1 : Int32} {x2 : Int32} (q : C 231 [.ref (259), .int (x1), .int (0), .int (0), .int (6), .int (2)] h (fun r g => lx_X4_checkGridLine dd C Q 145 [.ref (259), .int (x1), .int (x2)] [] g)) : lx_X4_checkGridLine dd C Q 135 [.ref (259), .int (x1), .int (x2)] [] h := by
  refine tf_LW_go ?_
  exact ⟨Nat.le_of_ble_eq_true rfl, Nat.le_of_ble_eq_true rfl, q⟩
set_option maxRecDepth 100000 in
theorem go_X4_checkGridLine_145 {dd : Nat} {C : tf_C} {Q : tf_Q} {h : LH} {x1 : Int32} {x2 : Int32} (q : lx_X4_checkGridLine dd C Q 162 [.ref (259), .int (x1), .int (x2)] [] h) : lx_X4_checkGridLine dd C Q 145 [.ref (259), .int (x1), .int (x2)] [] h := by
  refine tf_LW_go ?_
  exact q
set_option maxRecDepth 100000 in
theorem go_X4_checkGridLine_148 {dd : Nat} {C : tf_C} {Q : tf_Q} {h : LH} {x1 : Int32} {x2 : Int32} (q : C 231 [.ref (259), .int (x1), .int (0), .int (0), .int (x2 - 1), .int (2)] h (fun r g => lx_X4_checkGridLine dd C Q 159 [.ref (259), .int (x1), .int (x2)] [] g)) : lx_X4_checkGridLine dd C Q 148 [.ref (259), .int (x1), .int (x2)] [] h := by
  refine tf_LW_go ?_
  exact ⟨Nat.le_of_ble_eq_true rfl, Nat.le_of_ble_eq_true rfl, q⟩
set_option maxRecDepth 100000 in
theorem go_X4_checkGridLine_159 {dd : Nat} {C : tf_C} {Q : tf_Q} {h : LH} {x1 : Int32} {x2 : Int32} (q : lx_X4_checkGridLine dd C Q 162 [.ref (259), .int (x1), .int (x2)] [] h) : lx_X4_checkGridLine dd C Q 159 [.ref (259), .int (x1), .int (x2)] [] h := by
  refine tf_LW_go ?_
  exact q
set_option maxRecDepth 100000 in
theorem go_X4_checkGridLine_162 {dd : Nat} {C : tf_C} {Q : tf_Q} {h : LH} {x1 : Int32} {x2 : Int32} (q : Q tf_z h) : lx_X4_checkGridLine dd C Q 162 [.ref (259), .int (x1), .int (x2)] [] h := by
  refine tf_LW_go ?_
  exact ⟨(by first | rfl | trivial), q⟩
abbrev lx_X4_checkPointsThere (dd : Nat) (C : tf_C) (Q : tf_Q) : tf_X := tf_LW 298 C (tf_F 3) (tf_M 3) (tf_I 3) (tf_Eg 298 dd 234) 0 tb_X4_checkPointsThere Q
set_option maxRecDepth 100000 in
theorem go_X4_checkPointsThere_0 {dd : Nat} {C : tf_C} {Q : tf_Q} {h : LH} (q : C 236 [.ref (259)] h (fun r g => lx_X4_checkPointsThere dd C Q 4 [.ref (259), tf_z, tf_z] (r :: []) g)) : lx_X4_checkPointsThere dd C Q 0 [.ref (259), tf_z, tf_z] [] h := by
  refine tf_LW_go ?_
  exact ⟨Nat.le_of_ble_eq_true rfl, Nat.le_of_ble_eq_true rfl, q⟩
theorem en_X4_checkPointsThere {d : Nat} {Q : tf_Q} {h : LH} (q : lx_X4_checkPointsThere d (tf_Cd 298 d) Q 0 [.ref (259), tf_z, tf_z] [] h) : tf_Cd 298 (d + 1) 234 [.ref (259)] h Q := by
  exact ⟨⟨Nat.le_of_ble_eq_true rfl, Or.inr ⟨rfl, (by decide)⟩⟩, q⟩
set_option maxRecDepth 100000 in
theorem go_X4_checkPointsThere_4 {dd : Nat} {C : tf_C} {Q : tf_Q} {h : LH} {y0 : Int32} (q : lx_X4_checkPointsThere dd C Q 9 [.ref (259), .int (y0 - 1), .int (0)] [] h) : lx_X4_checkPointsThere dd C Q 4 [.ref (259), tf_z, tf_z] [.int (y0)] h := by
  refine tf_LW_go ?_
  exact q
set_option maxRecDepth 100000 in
theorem go_X4_checkPointsThere_9 {dd : Nat} {C : tf_C} {Q : tf_Q} {h : LH} {x1 : Int32} {x2 : Int32} (q : ((h.1 259 0) ≤ x2 → lx_X4_checkPointsThere dd C Q 85 [.ref (259), .int (x1), .int (x2)] [] h) ∧ (¬ (h.1 259 0) ≤ x2 → C 235 [.ref (259), .int (x2)] h (fun r g => lx_X4_checkPointsThere dd C Q 22 [.ref (259), .int (x1), .int (x2)] (r :: []) g))) : lx_X4_checkPointsThere dd C Q 9 [.ref (259), .int (x1), .int (x2)] [] h := by
  refine tf_LW_go ?_
  exact ⟨⟨(by first | rfl | trivial), (by decide)⟩, ⟨q.1, fun c1 => ⟨Nat.le_of_ble_eq_true rfl, Nat.le_of_ble_eq_true rfl, (q.2 c1)⟩⟩⟩
set_option maxRecDepth 100000 in
theorem go_X4_checkPointsThere_22 {dd : Nat} {C : tf_C} {Q : tf_Q} {h : LH} {x1 : Int32} {x2 : Int32} {y0 : Int32} (q : (y0 = (0 : Int32) → lx_X4_checkPointsThere dd C Q 46 [.ref (259), .int (x1), .int (x2)] [] h) ∧ (¬ y0 = (0 : Int32) → C 231 [.ref (259), .int (x2), .int (0), .int (0), .int (x1), .int (3)] h (fun r g => lx_X4_checkPointsThere dd C Q 34 [.ref (259), .int (x1), .int (x2)] [] g))) : lx_X4_checkPointsThere dd C Q 22 [.ref (259), .int (x1), .int (x2)] [.int (y0)] h := by
  refine tf_LW_go ?_
  exact ⟨q.1, fun c1 => ⟨Nat.le_of_ble_eq_true rfl, Nat.le_of_ble_eq_true rfl, (q.2 c1)⟩⟩
set_option maxRecDepth 100000 in
theorem go_X4_checkPointsThere_34 {dd : Nat} {C : tf_C} {Q : tf_Q} {h : LH} {x1 : Int32} {x2 : Int32} (q : C 231 [.ref (259), .int (x2), .int (1), .int (0), .int (x1), .int (3)] h (fun r g => lx_X4_checkPointsThere dd C Q 43 [.ref (259), .int (x1), .int (x2)] [] g)) : lx_X4_checkPointsThere dd C Q 34 [.ref (259), .int (x1), .int (x2)] [] h := by
  refine tf_LW_go ?_
  exact ⟨Nat.le_of_ble_eq_true rfl, Nat.le_of_ble_eq_true rfl, q⟩
set_option maxRecDepth 100000 in
theorem go_X4_checkPointsThere_43 {dd : Nat} {C : tf_C} {Q : tf_Q} {h : LH} {x1 : Int32} {x2 : Int32} (q : lx_X4_checkPointsThere dd C Q 79 [.ref (259), .int (x1), .int (x2)] [] h) : lx_X4_checkPointsThere dd C Q 43 [.ref (259), .int (x1), .int (x2)] [] h := by
  refine tf_LW_go ?_
  exact q
set_option maxRecDepth 100000 in
theorem go_X4_checkPointsThere_46 {dd : Nat} {C : tf_C} {Q : tf_Q} {h : LH} {x1 : Int32} {x2 : Int32} (q : (vp_in x2 80 ∧ vp_in (h.1 260 (x2 : Int32).toNatClampNeg) 15) ∧ ((h.1 260 (x2 : Int32).toNatClampNeg).toNatClampNeg = 3 → lx_X4_checkPointsThere dd C Q 70 [.ref (259), .int (x1), .int (x2)] [] h) ∧ (¬ (h.1 260 (x2 : Int32).toNatClampNeg).toNatClampNeg = 3 → (vp_in x2 80 ∧ vp_in (h.1 260 (x2 : Int32).toNatClampNeg) 15) ∧ ((h.1 260 (x2 : Int32).toNatClampNeg).toNatClampNeg = 4 → lx_X4_checkPointsThere dd C Q 70 [.ref (259), .int (x1), .int (x2)] [] h) ∧ (¬ (h.1 260 (x2 : Int32).toNatClampNeg).toNatClampNeg = 4 → lx_X4_checkPointsThere dd C Q 79 [.ref (259), .int (x1), .int (x2)] [] h))) : lx_X4_checkPointsThere dd C Q 46 [.ref (259), .int (x1), .int (x2)] [] h := by
  refine tf_LW_go ?_
  exact ⟨⟨(by first | rfl | trivial), (by decide)⟩, ⟨rfl, ⟨rfl, by decide, q.1.1, q.1.2⟩, ⟨rfl, ⟨rfl, ((h.1 260 (x2 : Int32).toNatClampNeg).toNatClampNeg), 3, (tv_lt q.1.2), (by decide), rfl, rfl, q.2.1, fun c2 => ⟨⟨(by first | rfl | trivial), (by decide)⟩, ⟨rfl, ⟨rfl, by decide, (q.2.2 c2).1.1, (q.2.2 c2).1.2⟩, ⟨rfl, ⟨rfl, ((h.1 260 (x2 : Int32).toNatClampNeg).toNatClampNeg), 4, (tv_lt (q.2.2 c2).1.2), (by decide), rfl, rfl, fun c1 => ((q.2.2 c2).2.1 c1), (q.2.2 c2).2.2⟩⟩⟩⟩⟩⟩⟩⟩
set_option maxRecDepth 100000 in
theorem go_X4_checkPointsThere_70 {dd : Nat} {C : tf_C} {Q : tf_Q} {h : LH} {x1 : Int32} {x2 : Int32} (q : C 231 [.ref (259), .int (x2), .int (0), .int (0), .int (x1), .int (3)] h (fun r g => lx_X4_checkPointsThere dd C Q 79 [.ref (259), .int (x1), .int (x2)] [] g)) : lx_X4_checkPointsThere dd C Q 70 [.ref (259), .int (x1), .int (x2)] [] h := by
  refine tf_LW_go ?_
  exact ⟨Nat.le_of_ble_eq_true rfl, Nat.le_of_ble_eq_true rfl, q⟩
set_option maxRecDepth 100000 in
theorem go_X4_checkPointsThere_79 {dd : Nat} {C : tf_C} {Q : tf_Q} {h : LH} {x1 : Int32} {x2 : Int32} (q : lx_X4_checkPointsThere dd C Q 9 [.ref (259), .int (x1), .int (x2 + 1)] [] h) : lx_X4_checkPointsThere dd C Q 79 [.ref (259), .int (x1), .int (x2)] [] h := by
  refine tf_LW_go ?_
  exact q
set_option maxRecDepth 100000 in
theorem go_X4_checkPointsThere_85 {dd : Nat} {C : tf_C} {Q : tf_Q} {h : LH} {x1 : Int32} {x2 : Int32} (q : Q tf_z h) : lx_X4_checkPointsThere dd C Q 85 [.ref (259), .int (x1), .int (x2)] [] h := by
  refine tf_LW_go ?_
  exact ⟨(by first | rfl | trivial), q⟩
abbrev lx_X4_isArc (dd : Nat) (C : tf_C) (Q : tf_Q) : tf_X := tf_LW 298 C (tf_F 3) (tf_M 3) (tf_I 3) (tf_Eg 298 dd 235) 2 tb_X4_isArc Q
set_option maxRecDepth 100000 in
theorem go_X4_isArc_0 {dd : Nat} {C : tf_C} {Q : tf_Q} {h : LH} {x1 : Int32} (q : (vp_in x1 80 ∧ vp_in (h.1 260 (x1 : Int32).toNatClampNeg) 15) ∧ ((h.1 260 (x1 : Int32).toNatClampNeg).toNatClampNeg = 1 → lx_X4_isArc dd C Q 24 [.ref (259), .int (x1)] [] h) ∧ (¬ (h.1 260 (x1 : Int32).toNatClampNeg).toNatClampNeg = 1 → (vp_in x1 80 ∧ vp_in (h.1 260 (x1 : Int32).toNatClampNeg) 15) ∧ ((h.1 260 (x1 : Int32).toNatClampNeg).toNatClampNeg = 2 → lx_X4_isArc dd C Q 24 [.ref (259), .int (x1)] [] h) ∧ (¬ (h.1 260 (x1 : Int32).toNatClampNeg).toNatClampNeg = 2 → lx_X4_isArc dd C Q 28 [.ref (259), .int (x1)] [] h))) : lx_X4_isArc dd C Q 0 [.ref (259), .int (x1)] [] h := by
  refine tf_LW_go ?_
  exact ⟨⟨(by first | rfl | trivial), (by decide)⟩, ⟨rfl, ⟨rfl, by decide, q.1.1, q.1.2⟩, ⟨rfl, ⟨rfl, ((h.1 260 (x1 : Int32).toNatClampNeg).toNatClampNeg), 1, (tv_lt q.1.2), (by decide), rfl, rfl, q.2.1, fun c2 => ⟨⟨(by first | rfl | trivial), (by decide)⟩, ⟨rfl, ⟨rfl, by decide, (q.2.2 c2).1.1, (q.2.2 c2).1.2⟩, ⟨rfl, ⟨rfl, ((h.1 260 (x1 : Int32).toNatClampNeg).toNatClampNeg), 2, (tv_lt (q.2.2 c2).1.2), (by decide), rfl, rfl, fun c1 => ((q.2.2 c2).2.1 c1), (q.2.2 c2).2.2⟩⟩⟩⟩⟩⟩⟩⟩
theorem en_X4_isArc {d : Nat} {Q : tf_Q} {h : LH} {x1 : Int32} (q : lx_X4_isArc d (tf_Cd 298 d) Q 0 [.ref (259), .int (x1)] [] h) : tf_Cd 298 (d + 1) 235 [.ref (259), .int (x1)] h Q := by
  exact ⟨⟨Nat.le_of_ble_eq_true rfl, Or.inr ⟨rfl, (by decide)⟩⟩, q⟩
set_option maxRecDepth 100000 in
theorem go_X4_isArc_24 {dd : Nat} {C : tf_C} {Q : tf_Q} {h : LH} {x1 : Int32} (q : lx_X4_isArc dd C Q 29 [.ref (259), .int (x1)] [.int (1)] h) : lx_X4_isArc dd C Q 24 [.ref (259), .int (x1)] [] h := by
  refine tf_LW_go ?_
  exact q
set_option maxRecDepth 100000 in
theorem go_X4_isArc_28 {dd : Nat} {C : tf_C} {Q : tf_Q} {h : LH} {x1 : Int32} (q : lx_X4_isArc dd C Q 29 [.ref (259), .int (x1)] [.int (0)] h) : lx_X4_isArc dd C Q 28 [.ref (259), .int (x1)] [] h := by
  refine tf_LW_go ?_
  exact q
set_option maxRecDepth 100000 in
theorem go_X4_isArc_29 {dd : Nat} {C : tf_C} {Q : tf_Q} {h : LH} {x1 : Int32} {y0 : Int32} (q : (vp_nar .boolean (y0) = (y0)) ∧ Q (.int (y0)) h) : lx_X4_isArc dd C Q 29 [.ref (259), .int (x1)] [.int (y0)] h := by
  refine tf_LW_go ?_
  exact q
abbrev lx_X4_pointsTold (dd : Nat) (C : tf_C) (Q : tf_Q) : tf_X := tf_LW 298 C (tf_F 3) (tf_M 3) (tf_I 3) (tf_Eg 298 dd 236) 1 tb_X4_pointsTold Q
set_option maxRecDepth 100000 in
theorem go_X4_pointsTold_0 {dd : Nat} {C : tf_C} {Q : tf_Q} {h : LH} (q : lx_X4_pointsTold dd C Q 4 [.ref (259), .int (2), .int (0)] [] h) : lx_X4_pointsTold dd C Q 0 [.ref (259), tf_z, tf_z] [] h := by
  refine tf_LW_go ?_
  exact q
theorem en_X4_pointsTold {d : Nat} {Q : tf_Q} {h : LH} (q : lx_X4_pointsTold d (tf_Cd 298 d) Q 0 [.ref (259), tf_z, tf_z] [] h) : tf_Cd 298 (d + 1) 236 [.ref (259)] h Q := by
  exact ⟨⟨Nat.le_of_ble_eq_true rfl, Or.inr ⟨rfl, (by decide)⟩⟩, q⟩
set_option maxRecDepth 100000 in
theorem go_X4_pointsTold_4 {dd : Nat} {C : tf_C} {Q : tf_Q} {h : LH} {x1 : Int32} {x2 : Int32} (q : ((h.1 259 0) ≤ x2 → lx_X4_pointsTold dd C Q 37 [.ref (259), .int (x1), .int (x2)] [] h) ∧ (¬ (h.1 259 0) ≤ x2 → (vp_in x2 80 ∧ vp_in (h.1 260 (x2 : Int32).toNatClampNeg) 15) ∧ ((h.1 260 (x2 : Int32).toNatClampNeg).toNatClampNeg = 0 → C 230 [.ref (259), .int (x2), .int (0)] h (fun r g => lx_X4_pointsTold dd C Q 30 [.ref (259), .int (x1), .int (x2)] (r :: []) g)) ∧ (¬ (h.1 260 (x2 : Int32).toNatClampNeg).toNatClampNeg = 0 → lx_X4_pointsTold dd C Q 31 [.ref (259), .int (x1), .int (x2)] [] h))) : lx_X4_pointsTold dd C Q 4 [.ref (259), .int (x1), .int (x2)] [] h := by
  refine tf_LW_go ?_
  exact ⟨⟨(by first | rfl | trivial), (by decide)⟩, ⟨q.1, fun c2 => ⟨⟨(by first | rfl | trivial), (by decide)⟩, ⟨rfl, ⟨rfl, by decide, (q.2 c2).1.1, (q.2 c2).1.2⟩, ⟨rfl, ⟨rfl, ((h.1 260 (x2 : Int32).toNatClampNeg).toNatClampNeg), 0, (tv_lt (q.2 c2).1.2), (by decide), rfl, rfl, fun c1 => ⟨Nat.le_of_ble_eq_true rfl, Nat.le_of_ble_eq_true rfl, ((q.2 c2).2.1 c1)⟩, (q.2 c2).2.2⟩⟩⟩⟩⟩⟩
set_option maxRecDepth 100000 in
theorem go_X4_pointsTold_30 {dd : Nat} {C : tf_C} {Q : tf_Q} {h : LH} {x1 : Int32} {x2 : Int32} {y0 : Int32} (q : lx_X4_pointsTold dd C Q 31 [.ref (259), .int (y0), .int (x2)] [] h) : lx_X4_pointsTold dd C Q 30 [.ref (259), .int (x1), .int (x2)] [.int (y0)] h := by
  refine tf_LW_go ?_
  exact q
set_option maxRecDepth 100000 in
theorem go_X4_pointsTold_31 {dd : Nat} {C : tf_C} {Q : tf_Q} {h : LH} {x1 : Int32} {x2 : Int32} (q : lx_X4_pointsTold dd C Q 4 [.ref (259), .int (x1), .int (x2 + 1)] [] h) : lx_X4_pointsTold dd C Q 31 [.ref (259), .int (x1), .int (x2)] [] h := by
  refine tf_LW_go ?_
  exact q
set_option maxRecDepth 100000 in
theorem go_X4_pointsTold_37 {dd : Nat} {C : tf_C} {Q : tf_Q} {h : LH} {x1 : Int32} {x2 : Int32} (q : Q (.int (x1)) h) : lx_X4_pointsTold dd C Q 37 [.ref (259), .int (x1), .int (x2)] [] h := by
  refine tf_LW_go ?_
  exact ⟨(by first | trivial | rfl), q⟩
abbrev lx_X4_sumOfSupplies (dd : Nat) (C : tf_C) (Q : tf_Q) : tf_X := tf_LW 298 C (tf_F 3) (tf_M 3) (tf_I 3) (tf_Eg 298 dd 237) 1 tb_X4_sumOfSupplies Q
set_option maxRecDepth 100000 in
theorem go_X4_sumOfSupplies_0 {dd : Nat} {C : tf_C} {Q : tf_Q} {h : LH} (q : lx_X4_sumOfSupplies dd C Q 2 [.ref (259), .int (0), tf_z] [] h) : lx_X4_sumOfSupplies dd C Q 0 [.ref (259), tf_z, tf_z] [] h := by
  refine tf_LW_go ?_
  exact q
theorem en_X4_sumOfSupplies {d : Nat} {Q : tf_Q} {h : LH} (q : lx_X4_sumOfSupplies d (tf_Cd 298 d) Q 0 [.ref (259), tf_z, tf_z] [] h) : tf_Cd 298 (d + 1) 237 [.ref (259)] h Q := by
  exact ⟨⟨Nat.le_of_ble_eq_true rfl, Or.inr ⟨rfl, (by decide)⟩⟩, q⟩
set_option maxRecDepth 100000 in
theorem go_X4_sumOfSupplies_2 {dd : Nat} {C : tf_C} {Q : tf_Q} {h : LH} {x1 : Int32} (q : ((7 : Int32) ≤ x1 → lx_X4_sumOfSupplies dd C Q 21 [.ref (259), .int (x1), tf_z] [] h) ∧ (¬ (7 : Int32) ≤ x1 → (vp_in x1 7) ∧ lx_X4_sumOfSupplies dd C Q 2 [.ref (259), .int (x1 + 1), tf_z] [] (tf_up h.1 264 (x1 : Int32).toNatClampNeg 0, h.2))) : lx_X4_sumOfSupplies dd C Q 2 [.ref (259), .int (x1), tf_z] [] h := by
  refine tf_LW_go ?_
  exact ⟨q.1, fun c1 => ⟨⟨(by first | rfl | trivial), (by decide)⟩, ⟨⟨(by first | rfl | trivial), (by decide), (q.2 c1).1⟩, (q.2 c1).2⟩⟩⟩
set_option maxRecDepth 100000 in
theorem go_X4_sumOfSupplies_21 {dd : Nat} {C : tf_C} {Q : tf_Q} {h : LH} {x1 : Int32} (q : lx_X4_sumOfSupplies dd C Q 23 [.ref (259), .int (0), tf_z] [] h) : lx_X4_sumOfSupplies dd C Q 21 [.ref (259), .int (x1), tf_z] [] h := by
  refine tf_LW_go ?_
  exact q
set_option maxRecDepth 100000 in
theorem go_X4_sumOfSupplies_23 {dd : Nat} {C : tf_C} {Q : tf_Q} {h : LH} {x1 : Int32} (q : ((h.1 259 0) ≤ x1 → lx_X4_sumOfSupplies dd C Q 99 [.ref (259), .int (x1), tf_z] [] h) ∧ (¬ (h.1 259 0) ≤ x1 → (vp_in x1 80 ∧ vp_in (h.1 260 (x1 : Int32).toNatClampNeg) 15) ∧ ((h.1 260 (x1 : Int32).toNatClampNeg).toNatClampNeg = 3 → C 230 [.ref (259), .int (x1), .int (0)] h (fun r g => lx_X4_sumOfSupplies dd C Q 53 [.ref (259), .int (x1), tf_z] (r :: [.ref (264)]) g)) ∧ (¬ (h.1 260 (x1 : Int32).toNatClampNeg).toNatClampNeg = 3 → lx_X4_sumOfSupplies dd C Q 63 [.ref (259), .int (x1), tf_z] [] h))) : lx_X4_sumOfSupplies dd C Q 23 [.ref (259), .int (x1), tf_z] [] h := by
  refine tf_LW_go ?_
  exact ⟨⟨(by first | rfl | trivial), (by decide)⟩, ⟨q.1, fun c2 => ⟨⟨(by first | rfl | trivial), (by decide)⟩, ⟨rfl, ⟨rfl, by decide, (q.2 c2).1.1, (q.2 c2).1.2⟩, ⟨rfl, ⟨rfl, ((h.1 260 (x1 : Int32).toNatClampNeg).toNatClampNeg), 3, (tv_lt (q.2 c2).1.2), (by decide), rfl, rfl, fun c1 => ⟨⟨(by first | rfl | trivial), (by decide)⟩, ⟨Nat.le_of_ble_eq_true rfl, Nat.le_of_ble_eq_true rfl, ((q.2 c2).2.1 c1)⟩⟩, (q.2 c2).2.2⟩⟩⟩⟩⟩⟩
set_option maxRecDepth 100000 in
theorem go_X4_sumOfSupplies_53 {dd : Nat} {C : tf_C} {Q : tf_Q} {h : LH} {x1 : Int32} {y0 ny0 : Nat} {y1 : Int32} (Ky0_0 : tf_K y0 = 8) (Ny0_0 : tf_N y0 = ny0) (By0 : y0 < 298) (q : C 230 [.ref (259), .int (x1), .int (1)] h (fun r g => lx_X4_sumOfSupplies dd C Q 59 [.ref (259), .int (x1), tf_z] (r :: [.int (y1), .ref (y0)]) g)) : lx_X4_sumOfSupplies dd C Q 53 [.ref (259), .int (x1), tf_z] [.int (y1), .ref (y0)] h := by
  refine tf_LW_go ?_
  show 3 ≤ 5 ∧ 2 ≤ 8 ∧ C 230 [.ref (259), .int (x1), .int (1)] h (fun r g => lx_X4_sumOfSupplies dd C Q 59 [.ref (259), .int (x1), tf_z] (r :: [.int (y1), .ref (y0)]) g)
  try simp only [Ny0_0]
  exact ⟨Nat.le_of_ble_eq_true rfl, Nat.le_of_ble_eq_true rfl, q⟩
set_option maxRecDepth 100000 in
theorem go_X4_sumOfSupplies_59 {dd : Nat} {C : tf_C} {Q : tf_Q} {h : LH} {x1 : Int32} {y0 ny0 : Nat} {y1 : Int32} {y2 : Int32} (Ky0_0 : tf_K y0 = 8) (Ny0_0 : tf_N y0 = ny0) (By0 : y0 < 298) (q : (vp_in y1 ny0) ∧ lx_X4_sumOfSupplies dd C Q 93 [.ref (259), .int (x1), tf_z] [] (tf_up h.1 y0 (y1 : Int32).toNatClampNeg y2, h.2)) : lx_X4_sumOfSupplies dd C Q 59 [.ref (259), .int (x1), tf_z] [.int (y2), .int (y1), .ref (y0)] h := by
  refine tf_LW_go ?_
  show (tf_K y0 = 8 ∧ y0 < 298 ∧ vp_in y1 (tf_N y0)) ∧ lx_X4_sumOfSupplies dd C Q 93 [.ref (259), .int (x1), tf_z] [] (tf_up h.1 y0 (y1 : Int32).toNatClampNeg y2, h.2)
  try simp only [Ny0_0]
  exact ⟨⟨Ky0_0, (show y0 < 298 by omega), q.1⟩, q.2⟩
set_option maxRecDepth 100000 in
theorem go_X4_sumOfSupplies_63 {dd : Nat} {C : tf_C} {Q : tf_Q} {h : LH} {x1 : Int32} (q : (vp_in x1 80 ∧ vp_in (h.1 260 (x1 : Int32).toNatClampNeg) 15) ∧ ((h.1 260 (x1 : Int32).toNatClampNeg).toNatClampNeg = 4 → C 230 [.ref (259), .int (x1), .int (0)] h (fun r g => lx_X4_sumOfSupplies dd C Q 85 [.ref (259), .int (x1), tf_z] (r :: [.ref (264)]) g)) ∧ (¬ (h.1 260 (x1 : Int32).toNatClampNeg).toNatClampNeg = 4 → lx_X4_sumOfSupplies dd C Q 93 [.ref (259), .int (x1), tf_z] [] h)) : lx_X4_sumOfSupplies dd C Q 63 [.ref (259), .int (x1), tf_z] [] h := by
  refine tf_LW_go ?_
  exact ⟨⟨(by first | rfl | trivial), (by decide)⟩, ⟨rfl, ⟨rfl, by decide, q.1.1, q.1.2⟩, ⟨rfl, ⟨rfl, ((h.1 260 (x1 : Int32).toNatClampNeg).toNatClampNeg), 4, (tv_lt q.1.2), (by decide), rfl, rfl, fun c1 => ⟨⟨(by first | rfl | trivial), (by decide)⟩, ⟨Nat.le_of_ble_eq_true rfl, Nat.le_of_ble_eq_true rfl, (q.2.1 c1)⟩⟩, q.2.2⟩⟩⟩⟩
set_option maxRecDepth 100000 in
theorem go_X4_sumOfSupplies_85 {dd : Nat} {C : tf_C} {Q : tf_Q} {h : LH} {x1 : Int32} {y0 ny0 : Nat} {y1 : Int32} (Ky0_0 : tf_K y0 = 8) (Ny0_0 : tf_N y0 = ny0) (By0 : y0 < 298) (q : C 230 [.ref (259), .int (x1), .int (1)] h (fun r g => lx_X4_sumOfSupplies dd C Q 91 [.ref (259), .int (x1), tf_z] (r :: [.int (y1), .ref (y0)]) g)) : lx_X4_sumOfSupplies dd C Q 85 [.ref (259), .int (x1), tf_z] [.int (y1), .ref (y0)] h := by
  refine tf_LW_go ?_
  show 3 ≤ 5 ∧ 2 ≤ 8 ∧ C 230 [.ref (259), .int (x1), .int (1)] h (fun r g => lx_X4_sumOfSupplies dd C Q 91 [.ref (259), .int (x1), tf_z] (r :: [.int (y1), .ref (y0)]) g)
  try simp only [Ny0_0]
  exact ⟨Nat.le_of_ble_eq_true rfl, Nat.le_of_ble_eq_true rfl, q⟩
set_option maxRecDepth 100000 in
theorem go_X4_sumOfSupplies_91 {dd : Nat} {C : tf_C} {Q : tf_Q} {h : LH} {x1 : Int32} {y0 ny0 : Nat} {y1 : Int32} {y2 : Int32} (Ky0_0 : tf_K y0 = 8) (Ny0_0 : tf_N y0 = ny0) (By0 : y0 < 298) (q : (vp_in y1 ny0) ∧ lx_X4_sumOfSupplies dd C Q 93 [.ref (259), .int (x1), tf_z] [] (tf_up h.1 y0 (y1 : Int32).toNatClampNeg (-y2), h.2)) : lx_X4_sumOfSupplies dd C Q 91 [.ref (259), .int (x1), tf_z] [.int (y2), .int (y1), .ref (y0)] h := by
  refine tf_LW_go ?_
  show (tf_K y0 = 8 ∧ y0 < 298 ∧ vp_in y1 (tf_N y0)) ∧ lx_X4_sumOfSupplies dd C Q 93 [.ref (259), .int (x1), tf_z] [] (tf_up h.1 y0 (y1 : Int32).toNatClampNeg (-y2), h.2)
  try simp only [Ny0_0]
  exact ⟨⟨Ky0_0, (show y0 < 298 by omega), q.1⟩, q.2⟩
set_option maxRecDepth 100000 in
theorem go_X4_sumOfSupplies_93 {dd : Nat} {C : tf_C} {Q : tf_Q} {h : LH} {x1 : Int32} (q : lx_X4_sumOfSupplies dd C Q 23 [.ref (259), .int (x1 + 1), tf_z] [] h) : lx_X4_sumOfSupplies dd C Q 93 [.ref (259), .int (x1), tf_z] [] h := by
  refine tf_LW_go ?_
  exact q
set_option maxRecDepth 100000 in
theorem go_X4_sumOfSupplies_99 {dd : Nat} {C : tf_C} {Q : tf_Q} {h : LH} {x1 : Int32} (q : lx_X4_sumOfSupplies dd C Q 103 [.ref (259), .int (0), .int (0)] [] h) : lx_X4_sumOfSupplies dd C Q 99 [.ref (259), .int (x1), tf_z] [] h := by
  refine tf_LW_go ?_
  exact q
set_option maxRecDepth 100000 in
theorem go_X4_sumOfSupplies_103 {dd : Nat} {C : tf_C} {Q : tf_Q} {h : LH} {x1 : Int32} {x2 : Int32} (q : ((7 : Int32) ≤ x2 → lx_X4_sumOfSupplies dd C Q 124 [.ref (259), .int (x1), .int (x2)] [] h) ∧ (¬ (7 : Int32) ≤ x2 → (vp_in x2 7) ∧ lx_X4_sumOfSupplies dd C Q 103 [.ref (259), .int (x1 + (h.1 264 (x2 : Int32).toNatClampNeg)), .int (x2 + 1)] [] h)) : lx_X4_sumOfSupplies dd C Q 103 [.ref (259), .int (x1), .int (x2)] [] h := by
  refine tf_LW_go ?_
  exact ⟨q.1, fun c1 => ⟨⟨(by first | rfl | trivial), (by decide)⟩, ⟨⟨(by first | rfl | trivial), (by decide), (q.2 c1).1⟩, (q.2 c1).2⟩⟩⟩
set_option maxRecDepth 100000 in
theorem go_X4_sumOfSupplies_124 {dd : Nat} {C : tf_C} {Q : tf_Q} {h : LH} {x1 : Int32} {x2 : Int32} (q : Q (.int (x1)) h) : lx_X4_sumOfSupplies dd C Q 124 [.ref (259), .int (x1), .int (x2)] [] h := by
  refine tf_LW_go ?_
  exact ⟨(by first | trivial | rfl), q⟩
abbrev lx_X4_checkOrders (dd : Nat) (C : tf_C) (Q : tf_Q) : tf_X := tf_LW 298 C (tf_F 3) (tf_M 3) (tf_I 3) (tf_Eg 298 dd 238) 0 tb_X4_checkOrders Q
set_option maxRecDepth 100000 in
theorem go_X4_checkOrders_0 {dd : Nat} {C : tf_C} {Q : tf_Q} {h : LH} (q : lx_X4_checkOrders dd C Q 2 [.ref (259), .int (0)] [] h) : lx_X4_checkOrders dd C Q 0 [.ref (259), tf_z] [] h := by
  refine tf_LW_go ?_
  exact q
theorem en_X4_checkOrders {d : Nat} {Q : tf_Q} {h : LH} (q : lx_X4_checkOrders d (tf_Cd 298 d) Q 0 [.ref (259), tf_z] [] h) : tf_Cd 298 (d + 1) 238 [.ref (259)] h Q := by
  exact ⟨⟨Nat.le_of_ble_eq_true rfl, Or.inr ⟨rfl, (by decide)⟩⟩, q⟩
set_option maxRecDepth 100000 in
theorem go_X4_checkOrders_2 {dd : Nat} {C : tf_C} {Q : tf_Q} {h : LH} {x1 : Int32} (q : ((h.1 259 0) ≤ x1 → lx_X4_checkOrders dd C Q 137 [.ref (259), .int (x1)] [] h) ∧ (¬ (h.1 259 0) ≤ x1 → (vp_in x1 80 ∧ vp_in (h.1 260 (x1 : Int32).toNatClampNeg) 15) ∧ lx_X4_checkOrders dd C Q 22 [.ref (259), .int (x1)] [.int (nI ((h.1 260 (x1 : Int32).toNatClampNeg).toNatClampNeg)), .ref (421)] h)) : lx_X4_checkOrders dd C Q 2 [.ref (259), .int (x1)] [] h := by
  refine tf_LW_go ?_
  exact ⟨⟨(by first | rfl | trivial), (by decide)⟩, ⟨q.1, fun c1 => ⟨rfl, ⟨⟨(by first | rfl | trivial), (by decide)⟩, ⟨rfl, ⟨rfl, by decide, (q.2 c1).1.1, (q.2 c1).1.2⟩, ⟨rfl, ((h.1 260 (x1 : Int32).toNatClampNeg).toNatClampNeg), (tv_lt (q.2 c1).1.2), rfl, Nat.le_of_ble_eq_true rfl, (q.2 c1).2⟩⟩⟩⟩⟩⟩
set_option maxRecDepth 100000 in
theorem go_X4_checkOrders_22 {dd : Nat} {C : tf_C} {Q : tf_Q} {h : LH} {x1 : Int32} {y1 : Int32} (q : (vp_in y1 15) ∧ (((tv_sm.getD (y1 : Int32).toNatClampNeg 0 : Int32).toInt < 3 ∨ 11 < (tv_sm.getD (y1 : Int32).toNatClampNeg 0 : Int32).toInt) → lx_X4_checkOrders dd C Q 131 [.ref (259), .int (x1)] [] h) ∧ ((tv_sm.getD (y1 : Int32).toNatClampNeg 0 : Int32).toInt = 3 → lx_X4_checkOrders dd C Q 118 [.ref (259), .int (x1)] [] h) ∧ ((tv_sm.getD (y1 : Int32).toNatClampNeg 0 : Int32).toInt = 4 → lx_X4_checkOrders dd C Q 131 [.ref (259), .int (x1)] [] h) ∧ ((tv_sm.getD (y1 : Int32).toNatClampNeg 0 : Int32).toInt = 5 → lx_X4_checkOrders dd C Q 131 [.ref (259), .int (x1)] [] h) ∧ ((tv_sm.getD (y1 : Int32).toNatClampNeg 0 : Int32).toInt = 6 → lx_X4_checkOrders dd C Q 118 [.ref (259), .int (x1)] [] h) ∧ ((tv_sm.getD (y1 : Int32).toNatClampNeg 0 : Int32).toInt = 7 → lx_X4_checkOrders dd C Q 72 [.ref (259), .int (x1)] [] h) ∧ ((tv_sm.getD (y1 : Int32).toNatClampNeg 0 : Int32).toInt = 8 → lx_X4_checkOrders dd C Q 85 [.ref (259), .int (x1)] [] h) ∧ ((tv_sm.getD (y1 : Int32).toNatClampNeg 0 : Int32).toInt = 9 → lx_X4_checkOrders dd C Q 118 [.ref (259), .int (x1)] [] h) ∧ ((tv_sm.getD (y1 : Int32).toNatClampNeg 0 : Int32).toInt = 10 → lx_X4_checkOrders dd C Q 118 [.ref (259), .int (x1)] [] h) ∧ ((tv_sm.getD (y1 : Int32).toNatClampNeg 0 : Int32).toInt = 11 → lx_X4_checkOrders dd C Q 118 [.ref (259), .int (x1)] [] h) ∧ True) : lx_X4_checkOrders dd C Q 22 [.ref (259), .int (x1)] [.int (y1), .ref (421)] h := by
  refine tf_LW_go ?_
  exact ⟨rfl, rfl, q.1, q.2⟩
set_option maxRecDepth 100000 in
theorem go_X4_checkOrders_72 {dd : Nat} {C : tf_C} {Q : tf_Q} {h : LH} {x1 : Int32} (q : C 231 [.ref (259), .int (x1), .int (0), .int (1), .int (60), .int (2)] h (fun r g => lx_X4_checkOrders dd C Q 82 [.ref (259), .int (x1)] [] g)) : lx_X4_checkOrders dd C Q 72 [.ref (259), .int (x1)] [] h := by
  refine tf_LW_go ?_
  exact ⟨Nat.le_of_ble_eq_true rfl, Nat.le_of_ble_eq_true rfl, q⟩
set_option maxRecDepth 100000 in
theorem go_X4_checkOrders_82 {dd : Nat} {C : tf_C} {Q : tf_Q} {h : LH} {x1 : Int32} (q : lx_X4_checkOrders dd C Q 131 [.ref (259), .int (x1)] [] h) : lx_X4_checkOrders dd C Q 82 [.ref (259), .int (x1)] [] h := by
  refine tf_LW_go ?_
  exact q
set_option maxRecDepth 100000 in
theorem go_X4_checkOrders_85 {dd : Nat} {C : tf_C} {Q : tf_Q} {h : LH} {x1 : Int32} (q : C 231 [.ref (259), .int (x1), .int (0), .int (0), .int (6), .int (2)] h (fun r g => lx_X4_checkOrders dd C Q 95 [.ref (259), .int (x1)] [] g)) : lx_X4_checkOrders dd C Q 85 [.ref (259), .int (x1)] [] h := by
  refine tf_LW_go ?_
  exact ⟨Nat.le_of_ble_eq_true rfl, Nat.le_of_ble_eq_true rfl, q⟩
set_option maxRecDepth 100000 in
theorem go_X4_checkOrders_95 {dd : Nat} {C : tf_C} {Q : tf_Q} {h : LH} {x1 : Int32} (q : C 231 [.ref (259), .int (x1), .int (1), .int (0), .int (6), .int (2)] h (fun r g => lx_X4_checkOrders dd C Q 105 [.ref (259), .int (x1)] [] g)) : lx_X4_checkOrders dd C Q 95 [.ref (259), .int (x1)] [] h := by
  refine tf_LW_go ?_
  exact ⟨Nat.le_of_ble_eq_true rfl, Nat.le_of_ble_eq_true rfl, q⟩
set_option maxRecDepth 100000 in
theorem go_X4_checkOrders_105 {dd : Nat} {C : tf_C} {Q : tf_Q} {h : LH} {x1 : Int32} (q : C 231 [.ref (259), .int (x1), .int (2), .int (1), .int (99), .int (2)] h (fun r g => lx_X4_checkOrders dd C Q 115 [.ref (259), .int (x1)] [] g)) : lx_X4_checkOrders dd C Q 105 [.ref (259), .int (x1)] [] h := by
  refine tf_LW_go ?_
  exact ⟨Nat.le_of_ble_eq_true rfl, Nat.le_of_ble_eq_true rfl, q⟩
set_option maxRecDepth 100000 in
theorem go_X4_checkOrders_115 {dd : Nat} {C : tf_C} {Q : tf_Q} {h : LH} {x1 : Int32} (q : lx_X4_checkOrders dd C Q 131 [.ref (259), .int (x1)] [] h) : lx_X4_checkOrders dd C Q 115 [.ref (259), .int (x1)] [] h := by
  refine tf_LW_go ?_
  exact q
set_option maxRecDepth 100000 in
theorem go_X4_checkOrders_118 {dd : Nat} {C : tf_C} {Q : tf_Q} {h : LH} {x1 : Int32} (q : C 231 [.ref (259), .int (x1), .int (0), .int (0), .int (13), .int (2)] h (fun r g => lx_X4_checkOrders dd C Q 128 [.ref (259), .int (x1)] [] g)) : lx_X4_checkOrders dd C Q 118 [.ref (259), .int (x1)] [] h := by
  refine tf_LW_go ?_
  exact ⟨Nat.le_of_ble_eq_true rfl, Nat.le_of_ble_eq_true rfl, q⟩
set_option maxRecDepth 100000 in
theorem go_X4_checkOrders_128 {dd : Nat} {C : tf_C} {Q : tf_Q} {h : LH} {x1 : Int32} (q : lx_X4_checkOrders dd C Q 131 [.ref (259), .int (x1)] [] h) : lx_X4_checkOrders dd C Q 128 [.ref (259), .int (x1)] [] h := by
  refine tf_LW_go ?_
  exact q
set_option maxRecDepth 100000 in
theorem go_X4_checkOrders_131 {dd : Nat} {C : tf_C} {Q : tf_Q} {h : LH} {x1 : Int32} (q : lx_X4_checkOrders dd C Q 2 [.ref (259), .int (x1 + 1)] [] h) : lx_X4_checkOrders dd C Q 131 [.ref (259), .int (x1)] [] h := by
  refine tf_LW_go ?_
  exact q
set_option maxRecDepth 100000 in
theorem go_X4_checkOrders_137 {dd : Nat} {C : tf_C} {Q : tf_Q} {h : LH} {x1 : Int32} (q : Q tf_z h) : lx_X4_checkOrders dd C Q 137 [.ref (259), .int (x1)] [] h := by
  refine tf_LW_go ?_
  exact ⟨(by first | rfl | trivial), q⟩
abbrev lx_X4_fill (dd : Nat) (C : tf_C) (Q : tf_Q) : tf_X := tf_LW 298 C (tf_F 3) (tf_M 3) (tf_I 3) (tf_Eg 298 dd 239) 0 tb_X4_fill Q
set_option maxRecDepth 100000 in
theorem go_X4_fill_0 {dd : Nat} {C : tf_C} {Q : tf_Q} {h : LH} {x1 : Nat} (Kx1_0 : tf_K x1 = 0) (q : C 236 [.ref (259)] h (fun r g => lx_X4_fill dd C Q 5 [.ref (259), .ref (x1), tf_z] (r :: [.ref (x1)]) g)) : lx_X4_fill dd C Q 0 [.ref (259), .ref (x1), tf_z] [] h := by
  obtain ⟨Bx1, ⟨Kx1_1, Kx1_2, Kx1_3, Kx1_4, Kx1_5, Kx1_6, Kx1_7, Kx1_8, Kx1_9, Kx1_10, Kx1_11, Kx1_12, Kx1_13, Kx1_14⟩, ⟨Nx1_1, Nx1_2, Nx1_3, Nx1_4, Nx1_5, Nx1_6, Nx1_7, Nx1_8, Nx1_9, Nx1_10, Nx1_12, Nx1_13, Nx1_14⟩⟩ := tn_net Kx1_0
  refine tf_LW_go ?_
  exact ⟨Nat.le_of_ble_eq_true rfl, Nat.le_of_ble_eq_true rfl, q⟩
theorem en_X4_fill {d : Nat} {Q : tf_Q} {h : LH} {x1 : Nat} (Kx1_0 : tf_K x1 = 0) (q : lx_X4_fill d (tf_Cd 298 d) Q 0 [.ref (259), .ref (x1), tf_z] [] h) : tf_Cd 298 (d + 1) 239 [.ref (259), .ref (x1)] h Q := by
  obtain ⟨Bx1, ⟨Kx1_1, Kx1_2, Kx1_3, Kx1_4, Kx1_5, Kx1_6, Kx1_7, Kx1_8, Kx1_9, Kx1_10, Kx1_11, Kx1_12, Kx1_13, Kx1_14⟩, ⟨Nx1_1, Nx1_2, Nx1_3, Nx1_4, Nx1_5, Nx1_6, Nx1_7, Nx1_8, Nx1_9, Nx1_10, Nx1_12, Nx1_13, Nx1_14⟩⟩ := tn_net Kx1_0
  exact ⟨⟨Nat.le_of_ble_eq_true rfl, Or.inr ⟨rfl, (by decide)⟩⟩, q⟩
set_option maxRecDepth 100000 in
theorem go_X4_fill_5 {dd : Nat} {C : tf_C} {Q : tf_Q} {h : LH} {x1 : Nat} {y0 : Nat} {y1 : Int32} (Kx1_0 : tf_K x1 = 0) (Ky0_0 : tf_K y0 = 0) (q : C 117 [.ref (y0), .int (y1)] h (fun r g => lx_X4_fill dd C Q 8 [.ref (259), .ref (x1), tf_z] [] g)) : lx_X4_fill dd C Q 5 [.ref (259), .ref (x1), tf_z] [.int (y1), .ref (y0)] h := by
  obtain ⟨Bx1, ⟨Kx1_1, Kx1_2, Kx1_3, Kx1_4, Kx1_5, Kx1_6, Kx1_7, Kx1_8, Kx1_9, Kx1_10, Kx1_11, Kx1_12, Kx1_13, Kx1_14⟩, ⟨Nx1_1, Nx1_2, Nx1_3, Nx1_4, Nx1_5, Nx1_6, Nx1_7, Nx1_8, Nx1_9, Nx1_10, Nx1_12, Nx1_13, Nx1_14⟩⟩ := tn_net Kx1_0
  obtain ⟨By0, ⟨Ky0_1, Ky0_2, Ky0_3, Ky0_4, Ky0_5, Ky0_6, Ky0_7, Ky0_8, Ky0_9, Ky0_10, Ky0_11, Ky0_12, Ky0_13, Ky0_14⟩, ⟨Ny0_1, Ny0_2, Ny0_3, Ny0_4, Ny0_5, Ny0_6, Ny0_7, Ny0_8, Ny0_9, Ny0_10, Ny0_12, Ny0_13, Ny0_14⟩⟩ := tn_net Ky0_0
  refine tf_LW_go ?_
  exact ⟨Nat.le_of_ble_eq_true rfl, Nat.le_of_ble_eq_true rfl, q⟩
set_option maxRecDepth 100000 in
theorem go_X4_fill_8 {dd : Nat} {C : tf_C} {Q : tf_Q} {h : LH} {x1 : Nat} (Kx1_0 : tf_K x1 = 0) (q : lx_X4_fill dd C Q 10 [.ref (259), .ref (x1), .int (0)] [] h) : lx_X4_fill dd C Q 8 [.ref (259), .ref (x1), tf_z] [] h := by
  obtain ⟨Bx1, ⟨Kx1_1, Kx1_2, Kx1_3, Kx1_4, Kx1_5, Kx1_6, Kx1_7, Kx1_8, Kx1_9, Kx1_10, Kx1_11, Kx1_12, Kx1_13, Kx1_14⟩, ⟨Nx1_1, Nx1_2, Nx1_3, Nx1_4, Nx1_5, Nx1_6, Nx1_7, Nx1_8, Nx1_9, Nx1_10, Nx1_12, Nx1_13, Nx1_14⟩⟩ := tn_net Kx1_0
  refine tf_LW_go ?_
  exact q
set_option maxRecDepth 100000 in
theorem go_X4_fill_10 {dd : Nat} {C : tf_C} {Q : tf_Q} {h : LH} {x1 : Nat} {x2 : Int32} (Kx1_0 : tf_K x1 = 0) (q : ((h.1 x1 0) ≤ x2 → lx_X4_fill dd C Q 36 [.ref (259), .ref (x1), .int (x2)] [] h) ∧ (¬ (h.1 x1 0) ≤ x2 → (vp_in x2 7) ∧ (vp_in x2 7) ∧ lx_X4_fill dd C Q 10 [.ref (259), .ref (x1), .int (x2 + 1)] [] (tf_up h.1 (x1 + 1) (x2 : Int32).toNatClampNeg (h.1 264 (x2 : Int32).toNatClampNeg), h.2))) : lx_X4_fill dd C Q 10 [.ref (259), .ref (x1), .int (x2)] [] h := by
  obtain ⟨Bx1, ⟨Kx1_1, Kx1_2, Kx1_3, Kx1_4, Kx1_5, Kx1_6, Kx1_7, Kx1_8, Kx1_9, Kx1_10, Kx1_11, Kx1_12, Kx1_13, Kx1_14⟩, ⟨Nx1_1, Nx1_2, Nx1_3, Nx1_4, Nx1_5, Nx1_6, Nx1_7, Nx1_8, Nx1_9, Nx1_10, Nx1_12, Nx1_13, Nx1_14⟩⟩ := tn_net Kx1_0
  refine tf_LW_go ?_
  show (tf_K x1 = 0 ∧ x1 < 298) ∧ ((h.1 x1 0) ≤ x2 → lx_X4_fill dd C Q 36 [.ref (259), .ref (x1), .int (x2)] [] h) ∧ (¬ (h.1 x1 0) ≤ x2 → (tf_K x1 = 0 ∧ x1 < 298) ∧ (tf_K 259 = 3 ∧ 259 < 298) ∧ (tf_K 264 = 8 ∧ 264 < 298 ∧ vp_in x2 7) ∧ (tf_K (tf_R x1 3) = 8 ∧ (tf_R x1 3) < 298 ∧ vp_in x2 (tf_N (tf_R x1 3))) ∧ lx_X4_fill dd C Q 10 [.ref (259), .ref (x1), .int (x2 + 1)] [] (tf_up h.1 (tf_R x1 3) (x2 : Int32).toNatClampNeg (h.1 264 (x2 : Int32).toNatClampNeg), h.2))
  try simp only [(show tf_R x1 3 = x1 + 1 by rw [tn_R0 Kx1_0]; try omega), Nx1_1]
  exact ⟨⟨Kx1_0, (show x1 < 298 by omega)⟩, ⟨q.1, fun c1 => ⟨⟨Kx1_0, (show x1 < 298 by omega)⟩, ⟨⟨(by first | rfl | trivial), (by decide)⟩, ⟨⟨(by first | rfl | trivial), (by decide), (q.2 c1).1⟩, ⟨⟨Kx1_1, (show x1 + 1 < 298 by omega), (q.2 c1).2.1⟩, (q.2 c1).2.2⟩⟩⟩⟩⟩⟩
set_option maxRecDepth 100000 in
theorem go_X4_fill_36 {dd : Nat} {C : tf_C} {Q : tf_Q} {h : LH} {x1 : Nat} {x2 : Int32} (Kx1_0 : tf_K x1 = 0) (q : lx_X4_fill dd C Q 38 [.ref (259), .ref (x1), .int (0)] [] h) : lx_X4_fill dd C Q 36 [.ref (259), .ref (x1), .int (x2)] [] h := by
  obtain ⟨Bx1, ⟨Kx1_1, Kx1_2, Kx1_3, Kx1_4, Kx1_5, Kx1_6, Kx1_7, Kx1_8, Kx1_9, Kx1_10, Kx1_11, Kx1_12, Kx1_13, Kx1_14⟩, ⟨Nx1_1, Nx1_2, Nx1_3, Nx1_4, Nx1_5, Nx1_6, Nx1_7, Nx1_8, Nx1_9, Nx1_10, Nx1_12, Nx1_13, Nx1_14⟩⟩ := tn_net Kx1_0
  refine tf_LW_go ?_
  exact q
set_option maxRecDepth 100000 in
theorem go_X4_fill_38 {dd : Nat} {C : tf_C} {Q : tf_Q} {h : LH} {x1 : Nat} {x2 : Int32} (Kx1_0 : tf_K x1 = 0) (q : ((h.1 259 0) ≤ x2 → lx_X4_fill dd C Q 58 [.ref (259), .ref (x1), .int (x2)] [] h) ∧ (¬ (h.1 259 0) ≤ x2 → C 240 [.ref (259), .int (x2), .ref (x1)] h (fun r g => lx_X4_fill dd C Q 52 [.ref (259), .ref (x1), .int (x2)] [] g))) : lx_X4_fill dd C Q 38 [.ref (259), .ref (x1), .int (x2)] [] h := by
  obtain ⟨Bx1, ⟨Kx1_1, Kx1_2, Kx1_3, Kx1_4, Kx1_5, Kx1_6, Kx1_7, Kx1_8, Kx1_9, Kx1_10, Kx1_11, Kx1_12, Kx1_13, Kx1_14⟩, ⟨Nx1_1, Nx1_2, Nx1_3, Nx1_4, Nx1_5, Nx1_6, Nx1_7, Nx1_8, Nx1_9, Nx1_10, Nx1_12, Nx1_13, Nx1_14⟩⟩ := tn_net Kx1_0
  refine tf_LW_go ?_
  exact ⟨⟨(by first | rfl | trivial), (by decide)⟩, ⟨q.1, fun c1 => ⟨Nat.le_of_ble_eq_true rfl, Nat.le_of_ble_eq_true rfl, (q.2 c1)⟩⟩⟩
set_option maxRecDepth 100000 in
theorem go_X4_fill_52 {dd : Nat} {C : tf_C} {Q : tf_Q} {h : LH} {x1 : Nat} {x2 : Int32} (Kx1_0 : tf_K x1 = 0) (q : lx_X4_fill dd C Q 38 [.ref (259), .ref (x1), .int (x2 + 1)] [] h) : lx_X4_fill dd C Q 52 [.ref (259), .ref (x1), .int (x2)] [] h := by
  obtain ⟨Bx1, ⟨Kx1_1, Kx1_2, Kx1_3, Kx1_4, Kx1_5, Kx1_6, Kx1_7, Kx1_8, Kx1_9, Kx1_10, Kx1_11, Kx1_12, Kx1_13, Kx1_14⟩, ⟨Nx1_1, Nx1_2, Nx1_3, Nx1_4, Nx1_5, Nx1_6, Nx1_7, Nx1_8, Nx1_9, Nx1_10, Nx1_12, Nx1_13, Nx1_14⟩⟩ := tn_net Kx1_0
  refine tf_LW_go ?_
  exact q
set_option maxRecDepth 100000 in
theorem go_X4_fill_58 {dd : Nat} {C : tf_C} {Q : tf_Q} {h : LH} {x1 : Nat} {x2 : Int32} (Kx1_0 : tf_K x1 = 0) (q : Q tf_z h) : lx_X4_fill dd C Q 58 [.ref (259), .ref (x1), .int (x2)] [] h := by
  obtain ⟨Bx1, ⟨Kx1_1, Kx1_2, Kx1_3, Kx1_4, Kx1_5, Kx1_6, Kx1_7, Kx1_8, Kx1_9, Kx1_10, Kx1_11, Kx1_12, Kx1_13, Kx1_14⟩, ⟨Nx1_1, Nx1_2, Nx1_3, Nx1_4, Nx1_5, Nx1_6, Nx1_7, Nx1_8, Nx1_9, Nx1_10, Nx1_12, Nx1_13, Nx1_14⟩⟩ := tn_net Kx1_0
  refine tf_LW_go ?_
  exact ⟨(by first | rfl | trivial), q⟩
abbrev lx_X4_fillLine (dd : Nat) (C : tf_C) (Q : tf_Q) : tf_X := tf_LW 298 C (tf_F 3) (tf_M 3) (tf_I 3) (tf_Eg 298 dd 240) 0 tb_X4_fillLine Q
set_option maxRecDepth 100000 in
theorem go_X4_fillLine_0 {dd : Nat} {C : tf_C} {Q : tf_Q} {h : LH} {x1 : Int32} {x2 : Nat} (Kx2_0 : tf_K x2 = 0) (q : (vp_in x1 80 ∧ vp_in (h.1 260 (x1 : Int32).toNatClampNeg) 15) ∧ lx_X4_fillLine dd C Q 12 [.ref (259), .int (x1), .ref (x2)] [.int (nI ((h.1 260 (x1 : Int32).toNatClampNeg).toNatClampNeg)), .ref (421)] h) : lx_X4_fillLine dd C Q 0 [.ref (259), .int (x1), .ref (x2)] [] h := by
  obtain ⟨Bx2, ⟨Kx2_1, Kx2_2, Kx2_3, Kx2_4, Kx2_5, Kx2_6, Kx2_7, Kx2_8, Kx2_9, Kx2_10, Kx2_11, Kx2_12, Kx2_13, Kx2_14⟩, ⟨Nx2_1, Nx2_2, Nx2_3, Nx2_4, Nx2_5, Nx2_6, Nx2_7, Nx2_8, Nx2_9, Nx2_10, Nx2_12, Nx2_13, Nx2_14⟩⟩ := tn_net Kx2_0
  refine tf_LW_go ?_
  exact ⟨rfl, ⟨⟨(by first | rfl | trivial), (by decide)⟩, ⟨rfl, ⟨rfl, by decide, q.1.1, q.1.2⟩, ⟨rfl, ((h.1 260 (x1 : Int32).toNatClampNeg).toNatClampNeg), (tv_lt q.1.2), rfl, Nat.le_of_ble_eq_true rfl, q.2⟩⟩⟩⟩
theorem en_X4_fillLine {d : Nat} {Q : tf_Q} {h : LH} {x1 : Int32} {x2 : Nat} (Kx2_0 : tf_K x2 = 0) (q : lx_X4_fillLine d (tf_Cd 298 d) Q 0 [.ref (259), .int (x1), .ref (x2)] [] h) : tf_Cd 298 (d + 1) 240 [.ref (259), .int (x1), .ref (x2)] h Q := by
  obtain ⟨Bx2, ⟨Kx2_1, Kx2_2, Kx2_3, Kx2_4, Kx2_5, Kx2_6, Kx2_7, Kx2_8, Kx2_9, Kx2_10, Kx2_11, Kx2_12, Kx2_13, Kx2_14⟩, ⟨Nx2_1, Nx2_2, Nx2_3, Nx2_4, Nx2_5, Nx2_6, Nx2_7, Nx2_8, Nx2_9, Nx2_10, Nx2_12, Nx2_13, Nx2_14⟩⟩ := tn_net Kx2_0
  exact ⟨⟨Nat.le_of_ble_eq_true rfl, Or.inr ⟨rfl, (by decide)⟩⟩, q⟩
set_option maxRecDepth 100000 in
theorem go_X4_fillLine_12 {dd : Nat} {C : tf_C} {Q : tf_Q} {h : LH} {x1 : Int32} {x2 : Nat} {y1 : Int32} (Kx2_0 : tf_K x2 = 0) (q : (vp_in y1 15) ∧ (((tv_sm.getD (y1 : Int32).toNatClampNeg 0 : Int32).toInt < 2 ∨ 14 < (tv_sm.getD (y1 : Int32).toNatClampNeg 0 : Int32).toInt) → lx_X4_fillLine dd C Q 182 [.ref (259), .int (x1), .ref (x2)] [] h) ∧ ((tv_sm.getD (y1 : Int32).toNatClampNeg 0 : Int32).toInt = 2 → lx_X4_fillLine dd C Q 80 [.ref (259), .int (x1), .ref (x2)] [] h) ∧ ((tv_sm.getD (y1 : Int32).toNatClampNeg 0 : Int32).toInt = 3 → lx_X4_fillLine dd C Q 111 [.ref (259), .int (x1), .ref (x2)] [] h) ∧ ((tv_sm.getD (y1 : Int32).toNatClampNeg 0 : Int32).toInt = 4 → lx_X4_fillLine dd C Q 182 [.ref (259), .int (x1), .ref (x2)] [] h) ∧ ((tv_sm.getD (y1 : Int32).toNatClampNeg 0 : Int32).toInt = 5 → lx_X4_fillLine dd C Q 182 [.ref (259), .int (x1), .ref (x2)] [] h) ∧ ((tv_sm.getD (y1 : Int32).toNatClampNeg 0 : Int32).toInt = 6 → lx_X4_fillLine dd C Q 143 [.ref (259), .int (x1), .ref (x2)] [] h) ∧ ((tv_sm.getD (y1 : Int32).toNatClampNeg 0 : Int32).toInt = 7 → lx_X4_fillLine dd C Q 182 [.ref (259), .int (x1), .ref (x2)] [] h) ∧ ((tv_sm.getD (y1 : Int32).toNatClampNeg 0 : Int32).toInt = 8 → lx_X4_fillLine dd C Q 182 [.ref (259), .int (x1), .ref (x2)] [] h) ∧ ((tv_sm.getD (y1 : Int32).toNatClampNeg 0 : Int32).toInt = 9 → lx_X4_fillLine dd C Q 182 [.ref (259), .int (x1), .ref (x2)] [] h) ∧ ((tv_sm.getD (y1 : Int32).toNatClampNeg 0 : Int32).toInt = 10 → lx_X4_fillLine dd C Q 182 [.ref (259), .int (x1), .ref (x2)] [] h) ∧ ((tv_sm.getD (y1 : Int32).toNatClampNeg 0 : Int32).toInt = 11 → lx_X4_fillLine dd C Q 182 [.ref (259), .int (x1), .ref (x2)] [] h) ∧ ((tv_sm.getD (y1 : Int32).toNatClampNeg 0 : Int32).toInt = 12 → lx_X4_fillLine dd C Q 158 [.ref (259), .int (x1), .ref (x2)] [] h) ∧ ((tv_sm.getD (y1 : Int32).toNatClampNeg 0 : Int32).toInt = 13 → lx_X4_fillLine dd C Q 166 [.ref (259), .int (x1), .ref (x2)] [] h) ∧ ((tv_sm.getD (y1 : Int32).toNatClampNeg 0 : Int32).toInt = 14 → lx_X4_fillLine dd C Q 174 [.ref (259), .int (x1), .ref (x2)] [] h) ∧ True) : lx_X4_fillLine dd C Q 12 [.ref (259), .int (x1), .ref (x2)] [.int (y1), .ref (421)] h := by
  obtain ⟨Bx2, ⟨Kx2_1, Kx2_2, Kx2_3, Kx2_4, Kx2_5, Kx2_6, Kx2_7, Kx2_8, Kx2_9, Kx2_10, Kx2_11, Kx2_12, Kx2_13, Kx2_14⟩, ⟨Nx2_1, Nx2_2, Nx2_3, Nx2_4, Nx2_5, Nx2_6, Nx2_7, Nx2_8, Nx2_9, Nx2_10, Nx2_12, Nx2_13, Nx2_14⟩⟩ := tn_net Kx2_0
  refine tf_LW_go ?_
  exact ⟨rfl, rfl, q.1, q.2⟩
set_option maxRecDepth 100000 in
theorem go_X4_fillLine_80 {dd : Nat} {C : tf_C} {Q : tf_Q} {h : LH} {x1 : Int32} {x2 : Nat} (Kx2_0 : tf_K x2 = 0) (q : C 230 [.ref (259), .int (x1), .int (0)] h (fun r g => lx_X4_fillLine dd C Q 87 [.ref (259), .int (x1), .ref (x2)] (r :: [.ref (x2)]) g)) : lx_X4_fillLine dd C Q 80 [.ref (259), .int (x1), .ref (x2)] [] h := by
  obtain ⟨Bx2, ⟨Kx2_1, Kx2_2, Kx2_3, Kx2_4, Kx2_5, Kx2_6, Kx2_7, Kx2_8, Kx2_9, Kx2_10, Kx2_11, Kx2_12, Kx2_13, Kx2_14⟩, ⟨Nx2_1, Nx2_2, Nx2_3, Nx2_4, Nx2_5, Nx2_6, Nx2_7, Nx2_8, Nx2_9, Nx2_10, Nx2_12, Nx2_13, Nx2_14⟩⟩ := tn_net Kx2_0
  refine tf_LW_go ?_
  exact ⟨Nat.le_of_ble_eq_true rfl, Nat.le_of_ble_eq_true rfl, q⟩
set_option maxRecDepth 100000 in
theorem go_X4_fillLine_87 {dd : Nat} {C : tf_C} {Q : tf_Q} {h : LH} {x1 : Int32} {x2 : Nat} {y0 : Nat} {y1 : Int32} (Kx2_0 : tf_K x2 = 0) (Ky0_0 : tf_K y0 = 0) (q : C 230 [.ref (259), .int (x1), .int (1)] h (fun r g => lx_X4_fillLine dd C Q 93 [.ref (259), .int (x1), .ref (x2)] (r :: [.int (y1), .ref (y0)]) g)) : lx_X4_fillLine dd C Q 87 [.ref (259), .int (x1), .ref (x2)] [.int (y1), .ref (y0)] h := by
  obtain ⟨Bx2, ⟨Kx2_1, Kx2_2, Kx2_3, Kx2_4, Kx2_5, Kx2_6, Kx2_7, Kx2_8, Kx2_9, Kx2_10, Kx2_11, Kx2_12, Kx2_13, Kx2_14⟩, ⟨Nx2_1, Nx2_2, Nx2_3, Nx2_4, Nx2_5, Nx2_6, Nx2_7, Nx2_8, Nx2_9, Nx2_10, Nx2_12, Nx2_13, Nx2_14⟩⟩ := tn_net Kx2_0
  obtain ⟨By0, ⟨Ky0_1, Ky0_2, Ky0_3, Ky0_4, Ky0_5, Ky0_6, Ky0_7, Ky0_8, Ky0_9, Ky0_10, Ky0_11, Ky0_12, Ky0_13, Ky0_14⟩, ⟨Ny0_1, Ny0_2, Ny0_3, Ny0_4, Ny0_5, Ny0_6, Ny0_7, Ny0_8, Ny0_9, Ny0_10, Ny0_12, Ny0_13, Ny0_14⟩⟩ := tn_net Ky0_0
  refine tf_LW_go ?_
  exact ⟨Nat.le_of_ble_eq_true rfl, Nat.le_of_ble_eq_true rfl, q⟩
set_option maxRecDepth 100000 in
theorem go_X4_fillLine_93 {dd : Nat} {C : tf_C} {Q : tf_Q} {h : LH} {x1 : Int32} {x2 : Nat} {y0 : Nat} {y1 : Int32} {y2 : Int32} (Kx2_0 : tf_K x2 = 0) (Ky0_0 : tf_K y0 = 0) (q : C 230 [.ref (259), .int (x1), .int (2)] h (fun r g => lx_X4_fillLine dd C Q 99 [.ref (259), .int (x1), .ref (x2)] (r :: [.int (y2), .int (y1), .ref (y0)]) g)) : lx_X4_fillLine dd C Q 93 [.ref (259), .int (x1), .ref (x2)] [.int (y2), .int (y1), .ref (y0)] h := by
  obtain ⟨Bx2, ⟨Kx2_1, Kx2_2, Kx2_3, Kx2_4, Kx2_5, Kx2_6, Kx2_7, Kx2_8, Kx2_9, Kx2_10, Kx2_11, Kx2_12, Kx2_13, Kx2_14⟩, ⟨Nx2_1, Nx2_2, Nx2_3, Nx2_4, Nx2_5, Nx2_6, Nx2_7, Nx2_8, Nx2_9, Nx2_10, Nx2_12, Nx2_13, Nx2_14⟩⟩ := tn_net Kx2_0
  obtain ⟨By0, ⟨Ky0_1, Ky0_2, Ky0_3, Ky0_4, Ky0_5, Ky0_6, Ky0_7, Ky0_8, Ky0_9, Ky0_10, Ky0_11, Ky0_12, Ky0_13, Ky0_14⟩, ⟨Ny0_1, Ny0_2, Ny0_3, Ny0_4, Ny0_5, Ny0_6, Ny0_7, Ny0_8, Ny0_9, Ny0_10, Ny0_12, Ny0_13, Ny0_14⟩⟩ := tn_net Ky0_0
  refine tf_LW_go ?_
  exact ⟨Nat.le_of_ble_eq_true rfl, Nat.le_of_ble_eq_true rfl, q⟩
set_option maxRecDepth 100000 in
theorem go_X4_fillLine_99 {dd : Nat} {C : tf_C} {Q : tf_Q} {h : LH} {x1 : Int32} {x2 : Nat} {y0 : Nat} {y1 : Int32} {y2 : Int32} {y3 : Int32} (Kx2_0 : tf_K x2 = 0) (Ky0_0 : tf_K y0 = 0) (q : C 230 [.ref (259), .int (x1), .int (3)] h (fun r g => lx_X4_fillLine dd C Q 105 [.ref (259), .int (x1), .ref (x2)] (r :: [.int (y3), .int (y2), .int (y1), .ref (y0)]) g)) : lx_X4_fillLine dd C Q 99 [.ref (259), .int (x1), .ref (x2)] [.int (y3), .int (y2), .int (y1), .ref (y0)] h := by
  obtain ⟨Bx2, ⟨Kx2_1, Kx2_2, Kx2_3, Kx2_4, Kx2_5, Kx2_6, Kx2_7, Kx2_8, Kx2_9, Kx2_10, Kx2_11, Kx2_12, Kx2_13, Kx2_14⟩, ⟨Nx2_1, Nx2_2, Nx2_3, Nx2_4, Nx2_5, Nx2_6, Nx2_7, Nx2_8, Nx2_9, Nx2_10, Nx2_12, Nx2_13, Nx2_14⟩⟩ := tn_net Kx2_0
  obtain ⟨By0, ⟨Ky0_1, Ky0_2, Ky0_3, Ky0_4, Ky0_5, Ky0_6, Ky0_7, Ky0_8, Ky0_9, Ky0_10, Ky0_11, Ky0_12, Ky0_13, Ky0_14⟩, ⟨Ny0_1, Ny0_2, Ny0_3, Ny0_4, Ny0_5, Ny0_6, Ny0_7, Ny0_8, Ny0_9, Ny0_10, Ny0_12, Ny0_13, Ny0_14⟩⟩ := tn_net Ky0_0
  refine tf_LW_go ?_
  exact ⟨Nat.le_of_ble_eq_true rfl, Nat.le_of_ble_eq_true rfl, q⟩
set_option maxRecDepth 100000 in
theorem go_X4_fillLine_105 {dd : Nat} {C : tf_C} {Q : tf_Q} {h : LH} {x1 : Int32} {x2 : Nat} {y0 : Nat} {y1 : Int32} {y2 : Int32} {y3 : Int32} {y4 : Int32} (Kx2_0 : tf_K x2 = 0) (Ky0_0 : tf_K y0 = 0) (q : C 118 [.ref (y0), .int (y1), .int (y2), .int (y3), .int (y4)] h (fun r g => lx_X4_fillLine dd C Q 108 [.ref (259), .int (x1), .ref (x2)] [] g)) : lx_X4_fillLine dd C Q 105 [.ref (259), .int (x1), .ref (x2)] [.int (y4), .int (y3), .int (y2), .int (y1), .ref (y0)] h := by
  obtain ⟨Bx2, ⟨Kx2_1, Kx2_2, Kx2_3, Kx2_4, Kx2_5, Kx2_6, Kx2_7, Kx2_8, Kx2_9, Kx2_10, Kx2_11, Kx2_12, Kx2_13, Kx2_14⟩, ⟨Nx2_1, Nx2_2, Nx2_3, Nx2_4, Nx2_5, Nx2_6, Nx2_7, Nx2_8, Nx2_9, Nx2_10, Nx2_12, Nx2_13, Nx2_14⟩⟩ := tn_net Kx2_0
  obtain ⟨By0, ⟨Ky0_1, Ky0_2, Ky0_3, Ky0_4, Ky0_5, Ky0_6, Ky0_7, Ky0_8, Ky0_9, Ky0_10, Ky0_11, Ky0_12, Ky0_13, Ky0_14⟩, ⟨Ny0_1, Ny0_2, Ny0_3, Ny0_4, Ny0_5, Ny0_6, Ny0_7, Ny0_8, Ny0_9, Ny0_10, Ny0_12, Ny0_13, Ny0_14⟩⟩ := tn_net Ky0_0
  refine tf_LW_go ?_
  exact ⟨Nat.le_of_ble_eq_true rfl, Nat.le_of_ble_eq_true rfl, q⟩
set_option maxRecDepth 100000 in
theorem go_X4_fillLine_108 {dd : Nat} {C : tf_C} {Q : tf_Q} {h : LH} {x1 : Int32} {x2 : Nat} (Kx2_0 : tf_K x2 = 0) (q : lx_X4_fillLine dd C Q 182 [.ref (259), .int (x1), .ref (x2)] [] h) : lx_X4_fillLine dd C Q 108 [.ref (259), .int (x1), .ref (x2)] [] h := by
  obtain ⟨Bx2, ⟨Kx2_1, Kx2_2, Kx2_3, Kx2_4, Kx2_5, Kx2_6, Kx2_7, Kx2_8, Kx2_9, Kx2_10, Kx2_11, Kx2_12, Kx2_13, Kx2_14⟩, ⟨Nx2_1, Nx2_2, Nx2_3, Nx2_4, Nx2_5, Nx2_6, Nx2_7, Nx2_8, Nx2_9, Nx2_10, Nx2_12, Nx2_13, Nx2_14⟩⟩ := tn_net Kx2_0
  refine tf_LW_go ?_
  exact q
set_option maxRecDepth 100000 in
theorem go_X4_fillLine_111 {dd : Nat} {C : tf_C} {Q : tf_Q} {h : LH} {x1 : Int32} {x2 : Nat} (Kx2_0 : tf_K x2 = 0) (q : C 230 [.ref (259), .int (x1), .int (0)] h (fun r g => lx_X4_fillLine dd C Q 118 [.ref (259), .int (x1), .ref (x2)] (r :: [.ref (x2)]) g)) : lx_X4_fillLine dd C Q 111 [.ref (259), .int (x1), .ref (x2)] [] h := by
  obtain ⟨Bx2, ⟨Kx2_1, Kx2_2, Kx2_3, Kx2_4, Kx2_5, Kx2_6, Kx2_7, Kx2_8, Kx2_9, Kx2_10, Kx2_11, Kx2_12, Kx2_13, Kx2_14⟩, ⟨Nx2_1, Nx2_2, Nx2_3, Nx2_4, Nx2_5, Nx2_6, Nx2_7, Nx2_8, Nx2_9, Nx2_10, Nx2_12, Nx2_13, Nx2_14⟩⟩ := tn_net Kx2_0
  refine tf_LW_go ?_
  exact ⟨Nat.le_of_ble_eq_true rfl, Nat.le_of_ble_eq_true rfl, q⟩
set_option maxRecDepth 100000 in
theorem go_X4_fillLine_118 {dd : Nat} {C : tf_C} {Q : tf_Q} {h : LH} {x1 : Int32} {x2 : Nat} {y0 : Nat} {y1 : Int32} (Kx2_0 : tf_K x2 = 0) (Ky0_0 : tf_K y0 = 0) (q : C 230 [.ref (259), .int (x1), .int (1)] h (fun r g => lx_X4_fillLine dd C Q 124 [.ref (259), .int (x1), .ref (x2)] (r :: [.int (y1), .ref (y0)]) g)) : lx_X4_fillLine dd C Q 118 [.ref (259), .int (x1), .ref (x2)] [.int (y1), .ref (y0)] h := by
  obtain ⟨Bx2, ⟨Kx2_1, Kx2_2, Kx2_3, Kx2_4, Kx2_5, Kx2_6, Kx2_7, Kx2_8, Kx2_9, Kx2_10, Kx2_11, Kx2_12, Kx2_13, Kx2_14⟩, ⟨Nx2_1, Nx2_2, Nx2_3, Nx2_4, Nx2_5, Nx2_6, Nx2_7, Nx2_8, Nx2_9, Nx2_10, Nx2_12, Nx2_13, Nx2_14⟩⟩ := tn_net Kx2_0
  obtain ⟨By0, ⟨Ky0_1, Ky0_2, Ky0_3, Ky0_4, Ky0_5, Ky0_6, Ky0_7, Ky0_8, Ky0_9, Ky0_10, Ky0_11, Ky0_12, Ky0_13, Ky0_14⟩, ⟨Ny0_1, Ny0_2, Ny0_3, Ny0_4, Ny0_5, Ny0_6, Ny0_7, Ny0_8, Ny0_9, Ny0_10, Ny0_12, Ny0_13, Ny0_14⟩⟩ := tn_net Ky0_0
  refine tf_LW_go ?_
  exact ⟨Nat.le_of_ble_eq_true rfl, Nat.le_of_ble_eq_true rfl, q⟩
set_option maxRecDepth 100000 in
theorem go_X4_fillLine_124 {dd : Nat} {C : tf_C} {Q : tf_Q} {h : LH} {x1 : Int32} {x2 : Nat} {y0 : Nat} {y1 : Int32} {y2 : Int32} (Kx2_0 : tf_K x2 = 0) (Ky0_0 : tf_K y0 = 0) (q : C 230 [.ref (259), .int (x1), .int (2)] h (fun r g => lx_X4_fillLine dd C Q 130 [.ref (259), .int (x1), .ref (x2)] (r :: [.int (y2), .int (y1), .ref (y0)]) g)) : lx_X4_fillLine dd C Q 124 [.ref (259), .int (x1), .ref (x2)] [.int (y2), .int (y1), .ref (y0)] h := by
  obtain ⟨Bx2, ⟨Kx2_1, Kx2_2, Kx2_3, Kx2_4, Kx2_5, Kx2_6, Kx2_7, Kx2_8, Kx2_9, Kx2_10, Kx2_11, Kx2_12, Kx2_13, Kx2_14⟩, ⟨Nx2_1, Nx2_2, Nx2_3, Nx2_4, Nx2_5, Nx2_6, Nx2_7, Nx2_8, Nx2_9, Nx2_10, Nx2_12, Nx2_13, Nx2_14⟩⟩ := tn_net Kx2_0
  obtain ⟨By0, ⟨Ky0_1, Ky0_2, Ky0_3, Ky0_4, Ky0_5, Ky0_6, Ky0_7, Ky0_8, Ky0_9, Ky0_10, Ky0_11, Ky0_12, Ky0_13, Ky0_14⟩, ⟨Ny0_1, Ny0_2, Ny0_3, Ny0_4, Ny0_5, Ny0_6, Ny0_7, Ny0_8, Ny0_9, Ny0_10, Ny0_12, Ny0_13, Ny0_14⟩⟩ := tn_net Ky0_0
  refine tf_LW_go ?_
  exact ⟨Nat.le_of_ble_eq_true rfl, Nat.le_of_ble_eq_true rfl, q⟩
set_option maxRecDepth 100000 in
theorem go_X4_fillLine_130 {dd : Nat} {C : tf_C} {Q : tf_Q} {h : LH} {x1 : Int32} {x2 : Nat} {y0 : Nat} {y1 : Int32} {y2 : Int32} {y3 : Int32} (Kx2_0 : tf_K x2 = 0) (Ky0_0 : tf_K y0 = 0) (q : C 230 [.ref (259), .int (x1), .int (3)] h (fun r g => lx_X4_fillLine dd C Q 136 [.ref (259), .int (x1), .ref (x2)] (r :: [.int (y3), .int (y2), .int (y1), .ref (y0)]) g)) : lx_X4_fillLine dd C Q 130 [.ref (259), .int (x1), .ref (x2)] [.int (y3), .int (y2), .int (y1), .ref (y0)] h := by
  obtain ⟨Bx2, ⟨Kx2_1, Kx2_2, Kx2_3, Kx2_4, Kx2_5, Kx2_6, Kx2_7, Kx2_8, Kx2_9, Kx2_10, Kx2_11, Kx2_12, Kx2_13, Kx2_14⟩, ⟨Nx2_1, Nx2_2, Nx2_3, Nx2_4, Nx2_5, Nx2_6, Nx2_7, Nx2_8, Nx2_9, Nx2_10, Nx2_12, Nx2_13, Nx2_14⟩⟩ := tn_net Kx2_0
  obtain ⟨By0, ⟨Ky0_1, Ky0_2, Ky0_3, Ky0_4, Ky0_5, Ky0_6, Ky0_7, Ky0_8, Ky0_9, Ky0_10, Ky0_11, Ky0_12, Ky0_13, Ky0_14⟩, ⟨Ny0_1, Ny0_2, Ny0_3, Ny0_4, Ny0_5, Ny0_6, Ny0_7, Ny0_8, Ny0_9, Ny0_10, Ny0_12, Ny0_13, Ny0_14⟩⟩ := tn_net Ky0_0
  refine tf_LW_go ?_
  exact ⟨Nat.le_of_ble_eq_true rfl, Nat.le_of_ble_eq_true rfl, q⟩
set_option maxRecDepth 100000 in
theorem go_X4_fillLine_136 {dd : Nat} {C : tf_C} {Q : tf_Q} {h : LH} {x1 : Int32} {x2 : Nat} {y0 : Nat} {y1 : Int32} {y2 : Int32} {y3 : Int32} {y4 : Int32} (Kx2_0 : tf_K x2 = 0) (Ky0_0 : tf_K y0 = 0) (q : C 118 [.ref (y0), .int (y1), .int (y2), .int (y3), .int (-y4)] h (fun r g => lx_X4_fillLine dd C Q 140 [.ref (259), .int (x1), .ref (x2)] [] g)) : lx_X4_fillLine dd C Q 136 [.ref (259), .int (x1), .ref (x2)] [.int (y4), .int (y3), .int (y2), .int (y1), .ref (y0)] h := by
  obtain ⟨Bx2, ⟨Kx2_1, Kx2_2, Kx2_3, Kx2_4, Kx2_5, Kx2_6, Kx2_7, Kx2_8, Kx2_9, Kx2_10, Kx2_11, Kx2_12, Kx2_13, Kx2_14⟩, ⟨Nx2_1, Nx2_2, Nx2_3, Nx2_4, Nx2_5, Nx2_6, Nx2_7, Nx2_8, Nx2_9, Nx2_10, Nx2_12, Nx2_13, Nx2_14⟩⟩ := tn_net Kx2_0
  obtain ⟨By0, ⟨Ky0_1, Ky0_2, Ky0_3, Ky0_4, Ky0_5, Ky0_6, Ky0_7, Ky0_8, Ky0_9, Ky0_10, Ky0_11, Ky0_12, Ky0_13, Ky0_14⟩, ⟨Ny0_1, Ny0_2, Ny0_3, Ny0_4, Ny0_5, Ny0_6, Ny0_7, Ny0_8, Ny0_9, Ny0_10, Ny0_12, Ny0_13, Ny0_14⟩⟩ := tn_net Ky0_0
  refine tf_LW_go ?_
  exact ⟨Nat.le_of_ble_eq_true rfl, Nat.le_of_ble_eq_true rfl, q⟩
set_option maxRecDepth 100000 in
theorem go_X4_fillLine_140 {dd : Nat} {C : tf_C} {Q : tf_Q} {h : LH} {x1 : Int32} {x2 : Nat} (Kx2_0 : tf_K x2 = 0) (q : lx_X4_fillLine dd C Q 182 [.ref (259), .int (x1), .ref (x2)] [] h) : lx_X4_fillLine dd C Q 140 [.ref (259), .int (x1), .ref (x2)] [] h := by
  obtain ⟨Bx2, ⟨Kx2_1, Kx2_2, Kx2_3, Kx2_4, Kx2_5, Kx2_6, Kx2_7, Kx2_8, Kx2_9, Kx2_10, Kx2_11, Kx2_12, Kx2_13, Kx2_14⟩, ⟨Nx2_1, Nx2_2, Nx2_3, Nx2_4, Nx2_5, Nx2_6, Nx2_7, Nx2_8, Nx2_9, Nx2_10, Nx2_12, Nx2_13, Nx2_14⟩⟩ := tn_net Kx2_0
  refine tf_LW_go ?_
  exact q
set_option maxRecDepth 100000 in
theorem go_X4_fillLine_143 {dd : Nat} {C : tf_C} {Q : tf_Q} {h : LH} {x1 : Int32} {x2 : Nat} (Kx2_0 : tf_K x2 = 0) (q : C 230 [.ref (259), .int (x1), .int (0)] h (fun r g => lx_X4_fillLine dd C Q 153 [.ref (259), .int (x1), .ref (x2)] (r :: [.ref (x2 + 7)]) g)) : lx_X4_fillLine dd C Q 143 [.ref (259), .int (x1), .ref (x2)] [] h := by
  obtain ⟨Bx2, ⟨Kx2_1, Kx2_2, Kx2_3, Kx2_4, Kx2_5, Kx2_6, Kx2_7, Kx2_8, Kx2_9, Kx2_10, Kx2_11, Kx2_12, Kx2_13, Kx2_14⟩, ⟨Nx2_1, Nx2_2, Nx2_3, Nx2_4, Nx2_5, Nx2_6, Nx2_7, Nx2_8, Nx2_9, Nx2_10, Nx2_12, Nx2_13, Nx2_14⟩⟩ := tn_net Kx2_0
  refine tf_LW_go ?_
  show (tf_K x2 = 0 ∧ x2 < 298) ∧ 3 ≤ 4 ∧ 1 ≤ 8 ∧ C 230 [.ref (259), .int (x1), .int (0)] h (fun r g => lx_X4_fillLine dd C Q 153 [.ref (259), .int (x1), .ref (x2)] (r :: [.ref (tf_R x2 9)]) g)
  try simp only [(show tf_R x2 9 = x2 + 7 by rw [tn_R0 Kx2_0]; try omega), Nx2_7]
  exact ⟨⟨Kx2_0, (show x2 < 298 by omega)⟩, ⟨Nat.le_of_ble_eq_true rfl, Nat.le_of_ble_eq_true rfl, q⟩⟩
set_option maxRecDepth 100000 in
theorem go_X4_fillLine_153 {dd : Nat} {C : tf_C} {Q : tf_Q} {h : LH} {x1 : Int32} {x2 : Nat} {y0 ny0 : Nat} {y1 : Int32} (Kx2_0 : tf_K x2 = 0) (Ky0_0 : tf_K y0 = 8) (Ny0_0 : tf_N y0 = ny0) (By0 : y0 < 298) (q : (vp_in y1 ny0) ∧ lx_X4_fillLine dd C Q 182 [.ref (259), .int (x1), .ref (x2)] [] (tf_up h.1 y0 (y1 : Int32).toNatClampNeg 3, h.2)) : lx_X4_fillLine dd C Q 153 [.ref (259), .int (x1), .ref (x2)] [.int (y1), .ref (y0)] h := by
  obtain ⟨Bx2, ⟨Kx2_1, Kx2_2, Kx2_3, Kx2_4, Kx2_5, Kx2_6, Kx2_7, Kx2_8, Kx2_9, Kx2_10, Kx2_11, Kx2_12, Kx2_13, Kx2_14⟩, ⟨Nx2_1, Nx2_2, Nx2_3, Nx2_4, Nx2_5, Nx2_6, Nx2_7, Nx2_8, Nx2_9, Nx2_10, Nx2_12, Nx2_13, Nx2_14⟩⟩ := tn_net Kx2_0
  refine tf_LW_go ?_
  show (tf_K y0 = 8 ∧ y0 < 298 ∧ vp_in y1 (tf_N y0)) ∧ lx_X4_fillLine dd C Q 182 [.ref (259), .int (x1), .ref (x2)] [] (tf_up h.1 y0 (y1 : Int32).toNatClampNeg 3, h.2)
  try simp only [Ny0_0]
  exact ⟨⟨Ky0_0, (show y0 < 298 by omega), q.1⟩, q.2⟩
set_option maxRecDepth 100000 in
theorem go_X4_fillLine_158 {dd : Nat} {C : tf_C} {Q : tf_Q} {h : LH} {x1 : Int32} {x2 : Nat} (Kx2_0 : tf_K x2 = 0) (q : lx_X4_fillLine dd C Q 182 [.ref (259), .int (x1), .ref (x2)] [] (tf_up h.1 x2 2 0, h.2)) : lx_X4_fillLine dd C Q 158 [.ref (259), .int (x1), .ref (x2)] [] h := by
  obtain ⟨Bx2, ⟨Kx2_1, Kx2_2, Kx2_3, Kx2_4, Kx2_5, Kx2_6, Kx2_7, Kx2_8, Kx2_9, Kx2_10, Kx2_11, Kx2_12, Kx2_13, Kx2_14⟩, ⟨Nx2_1, Nx2_2, Nx2_3, Nx2_4, Nx2_5, Nx2_6, Nx2_7, Nx2_8, Nx2_9, Nx2_10, Nx2_12, Nx2_13, Nx2_14⟩⟩ := tn_net Kx2_0
  refine tf_LW_go ?_
  exact ⟨⟨Kx2_0, (show x2 < 298 by omega), (by first | rfl | trivial)⟩, q⟩
set_option maxRecDepth 100000 in
theorem go_X4_fillLine_166 {dd : Nat} {C : tf_C} {Q : tf_Q} {h : LH} {x1 : Int32} {x2 : Nat} (Kx2_0 : tf_K x2 = 0) (q : lx_X4_fillLine dd C Q 182 [.ref (259), .int (x1), .ref (x2)] [] (tf_up h.1 x2 2 1, h.2)) : lx_X4_fillLine dd C Q 166 [.ref (259), .int (x1), .ref (x2)] [] h := by
  obtain ⟨Bx2, ⟨Kx2_1, Kx2_2, Kx2_3, Kx2_4, Kx2_5, Kx2_6, Kx2_7, Kx2_8, Kx2_9, Kx2_10, Kx2_11, Kx2_12, Kx2_13, Kx2_14⟩, ⟨Nx2_1, Nx2_2, Nx2_3, Nx2_4, Nx2_5, Nx2_6, Nx2_7, Nx2_8, Nx2_9, Nx2_10, Nx2_12, Nx2_13, Nx2_14⟩⟩ := tn_net Kx2_0
  refine tf_LW_go ?_
  exact ⟨⟨Kx2_0, (show x2 < 298 by omega), (by first | rfl | trivial)⟩, q⟩
set_option maxRecDepth 100000 in
theorem go_X4_fillLine_174 {dd : Nat} {C : tf_C} {Q : tf_Q} {h : LH} {x1 : Int32} {x2 : Nat} (Kx2_0 : tf_K x2 = 0) (q : lx_X4_fillLine dd C Q 182 [.ref (259), .int (x1), .ref (x2)] [] (tf_up h.1 x2 2 2, h.2)) : lx_X4_fillLine dd C Q 174 [.ref (259), .int (x1), .ref (x2)] [] h := by
  obtain ⟨Bx2, ⟨Kx2_1, Kx2_2, Kx2_3, Kx2_4, Kx2_5, Kx2_6, Kx2_7, Kx2_8, Kx2_9, Kx2_10, Kx2_11, Kx2_12, Kx2_13, Kx2_14⟩, ⟨Nx2_1, Nx2_2, Nx2_3, Nx2_4, Nx2_5, Nx2_6, Nx2_7, Nx2_8, Nx2_9, Nx2_10, Nx2_12, Nx2_13, Nx2_14⟩⟩ := tn_net Kx2_0
  refine tf_LW_go ?_
  exact ⟨⟨Kx2_0, (show x2 < 298 by omega), (by first | rfl | trivial)⟩, q⟩
set_option maxRecDepth 100000 in
theorem go_X4_fillLine_182 {dd : Nat} {C : tf_C} {Q : tf_Q} {h : LH} {x1 : Int32} {x2 : Nat} (Kx2_0 : tf_K x2 = 0) (q : Q tf_z h) : lx_X4_fillLine dd C Q 182 [.ref (259), .int (x1), .ref (x2)] [] h := by
  obtain ⟨Bx2, ⟨Kx2_1, Kx2_2, Kx2_3, Kx2_4, Kx2_5, Kx2_6, Kx2_7, Kx2_8, Kx2_9, Kx2_10, Kx2_11, Kx2_12, Kx2_13, Kx2_14⟩, ⟨Nx2_1, Nx2_2, Nx2_3, Nx2_4, Nx2_5, Nx2_6, Nx2_7, Nx2_8, Nx2_9, Nx2_10, Nx2_12, Nx2_13, Nx2_14⟩⟩ := tn_net Kx2_0
  refine tf_LW_go ?_
  exact ⟨(by first | rfl | trivial), q⟩
abbrev lx_X4_obey (dd : Nat) (C : tf_C) (Q : tf_Q) : tf_X := tf_LW 298 C (tf_F 3) (tf_M 3) (tf_I 3) (tf_Eg 298 dd 241) 2 tb_X4_obey Q
set_option maxRecDepth 100000 in
theorem go_X4_obey_0 {dd : Nat} {C : tf_C} {Q : tf_Q} {h : LH} {x1 : Int32} {x2 : Nat} (Kx2_0 : tf_K x2 = 0) (q : (vp_in x1 80 ∧ vp_in (h.1 260 (x1 : Int32).toNatClampNeg) 15) ∧ lx_X4_obey dd C Q 12 [.ref (259), .int (x1), .ref (x2), .ref (241)] [.int (nI ((h.1 260 (x1 : Int32).toNatClampNeg).toNatClampNeg)), .ref (421)] h) : lx_X4_obey dd C Q 0 [.ref (259), .int (x1), .ref (x2), .ref (241)] [] h := by
  obtain ⟨Bx2, ⟨Kx2_1, Kx2_2, Kx2_3, Kx2_4, Kx2_5, Kx2_6, Kx2_7, Kx2_8, Kx2_9, Kx2_10, Kx2_11, Kx2_12, Kx2_13, Kx2_14⟩, ⟨Nx2_1, Nx2_2, Nx2_3, Nx2_4, Nx2_5, Nx2_6, Nx2_7, Nx2_8, Nx2_9, Nx2_10, Nx2_12, Nx2_13, Nx2_14⟩⟩ := tn_net Kx2_0
  refine tf_LW_go ?_
  exact ⟨rfl, ⟨⟨(by first | rfl | trivial), (by decide)⟩, ⟨rfl, ⟨rfl, by decide, q.1.1, q.1.2⟩, ⟨rfl, ((h.1 260 (x1 : Int32).toNatClampNeg).toNatClampNeg), (tv_lt q.1.2), rfl, Nat.le_of_ble_eq_true rfl, q.2⟩⟩⟩⟩
theorem en_X4_obey {d : Nat} {Q : tf_Q} {h : LH} {x1 : Int32} {x2 : Nat} (Kx2_0 : tf_K x2 = 0) (q : lx_X4_obey d (tf_Cd 298 d) Q 0 [.ref (259), .int (x1), .ref (x2), .ref (241)] [] h) : tf_Cd 298 (d + 1) 241 [.ref (259), .int (x1), .ref (x2), .ref (241)] h Q := by
  obtain ⟨Bx2, ⟨Kx2_1, Kx2_2, Kx2_3, Kx2_4, Kx2_5, Kx2_6, Kx2_7, Kx2_8, Kx2_9, Kx2_10, Kx2_11, Kx2_12, Kx2_13, Kx2_14⟩, ⟨Nx2_1, Nx2_2, Nx2_3, Nx2_4, Nx2_5, Nx2_6, Nx2_7, Nx2_8, Nx2_9, Nx2_10, Nx2_12, Nx2_13, Nx2_14⟩⟩ := tn_net Kx2_0
  exact ⟨⟨Nat.le_of_ble_eq_true rfl, Or.inr ⟨rfl, (by decide)⟩⟩, q⟩
set_option maxRecDepth 100000 in
theorem go_X4_obey_12 {dd : Nat} {C : tf_C} {Q : tf_Q} {h : LH} {x1 : Int32} {x2 : Nat} {y1 : Int32} (Kx2_0 : tf_K x2 = 0) (q : (vp_in y1 15) ∧ (((tv_sm.getD (y1 : Int32).toNatClampNeg 0 : Int32).toInt < 3 ∨ 15 < (tv_sm.getD (y1 : Int32).toNatClampNeg 0 : Int32).toInt) → lx_X4_obey dd C Q 228 [.ref (259), .int (x1), .ref (x2), .ref (241)] [] h) ∧ ((tv_sm.getD (y1 : Int32).toNatClampNeg 0 : Int32).toInt = 3 → lx_X4_obey dd C Q 185 [.ref (259), .int (x1), .ref (x2), .ref (241)] [] h) ∧ ((tv_sm.getD (y1 : Int32).toNatClampNeg 0 : Int32).toInt = 4 → lx_X4_obey dd C Q 228 [.ref (259), .int (x1), .ref (x2), .ref (241)] [] h) ∧ ((tv_sm.getD (y1 : Int32).toNatClampNeg 0 : Int32).toInt = 5 → lx_X4_obey dd C Q 228 [.ref (259), .int (x1), .ref (x2), .ref (241)] [] h) ∧ ((tv_sm.getD (y1 : Int32).toNatClampNeg 0 : Int32).toInt = 6 → lx_X4_obey dd C Q 127 [.ref (259), .int (x1), .ref (x2), .ref (241)] [] h) ∧ ((tv_sm.getD (y1 : Int32).toNatClampNeg 0 : Int32).toInt = 7 → lx_X4_obey dd C Q 80 [.ref (259), .int (x1), .ref (x2), .ref (241)] [] h) ∧ ((tv_sm.getD (y1 : Int32).toNatClampNeg 0 : Int32).toInt = 8 → lx_X4_obey dd C Q 104 [.ref (259), .int (x1), .ref (x2), .ref (241)] [] h) ∧ ((tv_sm.getD (y1 : Int32).toNatClampNeg 0 : Int32).toInt = 9 → lx_X4_obey dd C Q 139 [.ref (259), .int (x1), .ref (x2), .ref (241)] [] h) ∧ ((tv_sm.getD (y1 : Int32).toNatClampNeg 0 : Int32).toInt = 10 → lx_X4_obey dd C Q 151 [.ref (259), .int (x1), .ref (x2), .ref (241)] [] h) ∧ ((tv_sm.getD (y1 : Int32).toNatClampNeg 0 : Int32).toInt = 11 → lx_X4_obey dd C Q 168 [.ref (259), .int (x1), .ref (x2), .ref (241)] [] h) ∧ ((tv_sm.getD (y1 : Int32).toNatClampNeg 0 : Int32).toInt = 12 → lx_X4_obey dd C Q 210 [.ref (259), .int (x1), .ref (x2), .ref (241)] [] h) ∧ ((tv_sm.getD (y1 : Int32).toNatClampNeg 0 : Int32).toInt = 13 → lx_X4_obey dd C Q 216 [.ref (259), .int (x1), .ref (x2), .ref (241)] [] h) ∧ ((tv_sm.getD (y1 : Int32).toNatClampNeg 0 : Int32).toInt = 14 → lx_X4_obey dd C Q 222 [.ref (259), .int (x1), .ref (x2), .ref (241)] [] h) ∧ ((tv_sm.getD (y1 : Int32).toNatClampNeg 0 : Int32).toInt = 15 → lx_X4_obey dd C Q 203 [.ref (259), .int (x1), .ref (x2), .ref (241)] [] h) ∧ True) : lx_X4_obey dd C Q 12 [.ref (259), .int (x1), .ref (x2), .ref (241)] [.int (y1), .ref (421)] h := by
  obtain ⟨Bx2, ⟨Kx2_1, Kx2_2, Kx2_3, Kx2_4, Kx2_5, Kx2_6, Kx2_7, Kx2_8, Kx2_9, Kx2_10, Kx2_11, Kx2_12, Kx2_13, Kx2_14⟩, ⟨Nx2_1, Nx2_2, Nx2_3, Nx2_4, Nx2_5, Nx2_6, Nx2_7, Nx2_8, Nx2_9, Nx2_10, Nx2_12, Nx2_13, Nx2_14⟩⟩ := tn_net Kx2_0
  refine tf_LW_go ?_
  exact ⟨rfl, rfl, q.1, q.2⟩
set_option maxRecDepth 100000 in
theorem go_X4_obey_80 {dd : Nat} {C : tf_C} {Q : tf_Q} {h : LH} {x1 : Int32} {x2 : Nat} (Kx2_0 : tf_K x2 = 0) (q : C 230 [.ref (259), .int (x1), .int (0)] h (fun r g => lx_X4_obey dd C Q 92 [.ref (259), .int (x1), .ref (x2), .ref (241)] (r :: [.int (h.1 x2 2), .ref (x2), .ref (241)]) g)) : lx_X4_obey dd C Q 80 [.ref (259), .int (x1), .ref (x2), .ref (241)] [] h := by
  obtain ⟨Bx2, ⟨Kx2_1, Kx2_2, Kx2_3, Kx2_4, Kx2_5, Kx2_6, Kx2_7, Kx2_8, Kx2_9, Kx2_10, Kx2_11, Kx2_12, Kx2_13, Kx2_14⟩, ⟨Nx2_1, Nx2_2, Nx2_3, Nx2_4, Nx2_5, Nx2_6, Nx2_7, Nx2_8, Nx2_9, Nx2_10, Nx2_12, Nx2_13, Nx2_14⟩⟩ := tn_net Kx2_0
  refine tf_LW_go ?_
  exact ⟨⟨Kx2_0, (show x2 < 298 by omega)⟩, ⟨Nat.le_of_ble_eq_true rfl, Nat.le_of_ble_eq_true rfl, q⟩⟩
set_option maxRecDepth 100000 in
theorem go_X4_obey_92 {dd : Nat} {C : tf_C} {Q : tf_Q} {h : LH} {x1 : Int32} {x2 : Nat} {y1 : Nat} {y2 : Int32} {y3 : Int32} (Kx2_0 : tf_K x2 = 0) (Ky1_0 : tf_K y1 = 0) (q : C 160 [.ref (241), .ref (y1), .int (y2), .int (y3)] h (fun r g => lx_X4_obey dd C Q 95 [.ref (259), .int (x1), .ref (x2), .ref (241)] (r :: []) g)) : lx_X4_obey dd C Q 92 [.ref (259), .int (x1), .ref (x2), .ref (241)] [.int (y3), .int (y2), .ref (y1), .ref (241)] h := by
  obtain ⟨Bx2, ⟨Kx2_1, Kx2_2, Kx2_3, Kx2_4, Kx2_5, Kx2_6, Kx2_7, Kx2_8, Kx2_9, Kx2_10, Kx2_11, Kx2_12, Kx2_13, Kx2_14⟩, ⟨Nx2_1, Nx2_2, Nx2_3, Nx2_4, Nx2_5, Nx2_6, Nx2_7, Nx2_8, Nx2_9, Nx2_10, Nx2_12, Nx2_13, Nx2_14⟩⟩ := tn_net Kx2_0
  obtain ⟨By1, ⟨Ky1_1, Ky1_2, Ky1_3, Ky1_4, Ky1_5, Ky1_6, Ky1_7, Ky1_8, Ky1_9, Ky1_10, Ky1_11, Ky1_12, Ky1_13, Ky1_14⟩, ⟨Ny1_1, Ny1_2, Ny1_3, Ny1_4, Ny1_5, Ny1_6, Ny1_7, Ny1_8, Ny1_9, Ny1_10, Ny1_12, Ny1_13, Ny1_14⟩⟩ := tn_net Ky1_0
  refine tf_LW_go ?_
  exact ⟨Nat.le_of_ble_eq_true rfl, Nat.le_of_ble_eq_true rfl, q⟩
set_option maxRecDepth 100000 in
theorem go_X4_obey_95 {dd : Nat} {C : tf_C} {Q : tf_Q} {h : LH} {x1 : Int32} {x2 : Nat} {y0 : Int32} (Kx2_0 : tf_K x2 = 0) (q : (y0 ≤ (0 : Int32) → lx_X4_obey dd C Q 102 [.ref (259), .int (x1), .ref (x2), .ref (241)] [] h) ∧ (¬ y0 ≤ (0 : Int32) → lx_X4_obey dd C Q 103 [.ref (259), .int (x1), .ref (x2), .ref (241)] [.int (1)] h)) : lx_X4_obey dd C Q 95 [.ref (259), .int (x1), .ref (x2), .ref (241)] [.int (y0)] h := by
  obtain ⟨Bx2, ⟨Kx2_1, Kx2_2, Kx2_3, Kx2_4, Kx2_5, Kx2_6, Kx2_7, Kx2_8, Kx2_9, Kx2_10, Kx2_11, Kx2_12, Kx2_13, Kx2_14⟩, ⟨Nx2_1, Nx2_2, Nx2_3, Nx2_4, Nx2_5, Nx2_6, Nx2_7, Nx2_8, Nx2_9, Nx2_10, Nx2_12, Nx2_13, Nx2_14⟩⟩ := tn_net Kx2_0
  refine tf_LW_go ?_
  exact ⟨q.1, fun c1 => (q.2 c1)⟩
set_option maxRecDepth 100000 in
theorem go_X4_obey_102 {dd : Nat} {C : tf_C} {Q : tf_Q} {h : LH} {x1 : Int32} {x2 : Nat} (Kx2_0 : tf_K x2 = 0) (q : lx_X4_obey dd C Q 103 [.ref (259), .int (x1), .ref (x2), .ref (241)] [.int (0)] h) : lx_X4_obey dd C Q 102 [.ref (259), .int (x1), .ref (x2), .ref (241)] [] h := by
  obtain ⟨Bx2, ⟨Kx2_1, Kx2_2, Kx2_3, Kx2_4, Kx2_5, Kx2_6, Kx2_7, Kx2_8, Kx2_9, Kx2_10, Kx2_11, Kx2_12, Kx2_13, Kx2_14⟩, ⟨Nx2_1, Nx2_2, Nx2_3, Nx2_4, Nx2_5, Nx2_6, Nx2_7, Nx2_8, Nx2_9, Nx2_10, Nx2_12, Nx2_13, Nx2_14⟩⟩ := tn_net Kx2_0
  refine tf_LW_go ?_
  exact q
set_option maxRecDepth 100000 in
theorem go_X4_obey_103 {dd : Nat} {C : tf_C} {Q : tf_Q} {h : LH} {x1 : Int32} {x2 : Nat} {y0 : Int32} (Kx2_0 : tf_K x2 = 0) (q : (vp_nar .boolean (y0) = (y0)) ∧ Q (.int (y0)) h) : lx_X4_obey dd C Q 103 [.ref (259), .int (x1), .ref (x2), .ref (241)] [.int (y0)] h := by
  obtain ⟨Bx2, ⟨Kx2_1, Kx2_2, Kx2_3, Kx2_4, Kx2_5, Kx2_6, Kx2_7, Kx2_8, Kx2_9, Kx2_10, Kx2_11, Kx2_12, Kx2_13, Kx2_14⟩, ⟨Nx2_1, Nx2_2, Nx2_3, Nx2_4, Nx2_5, Nx2_6, Nx2_7, Nx2_8, Nx2_9, Nx2_10, Nx2_12, Nx2_13, Nx2_14⟩⟩ := tn_net Kx2_0
  refine tf_LW_go ?_
  exact q
set_option maxRecDepth 100000 in
theorem go_X4_obey_104 {dd : Nat} {C : tf_C} {Q : tf_Q} {h : LH} {x1 : Int32} {x2 : Nat} (Kx2_0 : tf_K x2 = 0) (q : C 230 [.ref (259), .int (x1), .int (0)] h (fun r g => lx_X4_obey dd C Q 111 [.ref (259), .int (x1), .ref (x2), .ref (241)] (r :: [.ref (x2)]) g)) : lx_X4_obey dd C Q 104 [.ref (259), .int (x1), .ref (x2), .ref (241)] [] h := by
  obtain ⟨Bx2, ⟨Kx2_1, Kx2_2, Kx2_3, Kx2_4, Kx2_5, Kx2_6, Kx2_7, Kx2_8, Kx2_9, Kx2_10, Kx2_11, Kx2_12, Kx2_13, Kx2_14⟩, ⟨Nx2_1, Nx2_2, Nx2_3, Nx2_4, Nx2_5, Nx2_6, Nx2_7, Nx2_8, Nx2_9, Nx2_10, Nx2_12, Nx2_13, Nx2_14⟩⟩ := tn_net Kx2_0
  refine tf_LW_go ?_
  exact ⟨Nat.le_of_ble_eq_true rfl, Nat.le_of_ble_eq_true rfl, q⟩
set_option maxRecDepth 100000 in
theorem go_X4_obey_111 {dd : Nat} {C : tf_C} {Q : tf_Q} {h : LH} {x1 : Int32} {x2 : Nat} {y0 : Nat} {y1 : Int32} (Kx2_0 : tf_K x2 = 0) (Ky0_0 : tf_K y0 = 0) (q : C 230 [.ref (259), .int (x1), .int (1)] h (fun r g => lx_X4_obey dd C Q 117 [.ref (259), .int (x1), .ref (x2), .ref (241)] (r :: [.int (y1), .ref (y0)]) g)) : lx_X4_obey dd C Q 111 [.ref (259), .int (x1), .ref (x2), .ref (241)] [.int (y1), .ref (y0)] h := by
  obtain ⟨Bx2, ⟨Kx2_1, Kx2_2, Kx2_3, Kx2_4, Kx2_5, Kx2_6, Kx2_7, Kx2_8, Kx2_9, Kx2_10, Kx2_11, Kx2_12, Kx2_13, Kx2_14⟩, ⟨Nx2_1, Nx2_2, Nx2_3, Nx2_4, Nx2_5, Nx2_6, Nx2_7, Nx2_8, Nx2_9, Nx2_10, Nx2_12, Nx2_13, Nx2_14⟩⟩ := tn_net Kx2_0
  obtain ⟨By0, ⟨Ky0_1, Ky0_2, Ky0_3, Ky0_4, Ky0_5, Ky0_6, Ky0_7, Ky0_8, Ky0_9, Ky0_10, Ky0_11, Ky0_12, Ky0_13, Ky0_14⟩, ⟨Ny0_1, Ny0_2, Ny0_3, Ny0_4, Ny0_5, Ny0_6, Ny0_7, Ny0_8, Ny0_9, Ny0_10, Ny0_12, Ny0_13, Ny0_14⟩⟩ := tn_net Ky0_0
  refine tf_LW_go ?_
  exact ⟨Nat.le_of_ble_eq_true rfl, Nat.le_of_ble_eq_true rfl, q⟩
set_option maxRecDepth 100000 in
theorem go_X4_obey_117 {dd : Nat} {C : tf_C} {Q : tf_Q} {h : LH} {x1 : Int32} {x2 : Nat} {y0 : Nat} {y1 : Int32} {y2 : Int32} (Kx2_0 : tf_K x2 = 0) (Ky0_0 : tf_K y0 = 0) (q : C 230 [.ref (259), .int (x1), .int (2)] h (fun r g => lx_X4_obey dd C Q 123 [.ref (259), .int (x1), .ref (x2), .ref (241)] (r :: [.int (y2), .int (y1), .ref (y0)]) g)) : lx_X4_obey dd C Q 117 [.ref (259), .int (x1), .ref (x2), .ref (241)] [.int (y2), .int (y1), .ref (y0)] h := by
  obtain ⟨Bx2, ⟨Kx2_1, Kx2_2, Kx2_3, Kx2_4, Kx2_5, Kx2_6, Kx2_7, Kx2_8, Kx2_9, Kx2_10, Kx2_11, Kx2_12, Kx2_13, Kx2_14⟩, ⟨Nx2_1, Nx2_2, Nx2_3, Nx2_4, Nx2_5, Nx2_6, Nx2_7, Nx2_8, Nx2_9, Nx2_10, Nx2_12, Nx2_13, Nx2_14⟩⟩ := tn_net Kx2_0
  obtain ⟨By0, ⟨Ky0_1, Ky0_2, Ky0_3, Ky0_4, Ky0_5, Ky0_6, Ky0_7, Ky0_8, Ky0_9, Ky0_10, Ky0_11, Ky0_12, Ky0_13, Ky0_14⟩, ⟨Ny0_1, Ny0_2, Ny0_3, Ny0_4, Ny0_5, Ny0_6, Ny0_7, Ny0_8, Ny0_9, Ny0_10, Ny0_12, Ny0_13, Ny0_14⟩⟩ := tn_net Ky0_0
  refine tf_LW_go ?_
  exact ⟨Nat.le_of_ble_eq_true rfl, Nat.le_of_ble_eq_true rfl, q⟩
set_option maxRecDepth 100000 in
theorem go_X4_obey_123 {dd : Nat} {C : tf_C} {Q : tf_Q} {h : LH} {x1 : Int32} {x2 : Nat} {y0 : Nat} {y1 : Int32} {y2 : Int32} {y3 : Int32} (Kx2_0 : tf_K x2 = 0) (Ky0_0 : tf_K y0 = 0) (q : C 124 [.ref (y0), .int (y1), .int (y2), .int (y3)] h (fun r g => lx_X4_obey dd C Q 126 [.ref (259), .int (x1), .ref (x2), .ref (241)] (r :: []) g)) : lx_X4_obey dd C Q 123 [.ref (259), .int (x1), .ref (x2), .ref (241)] [.int (y3), .int (y2), .int (y1), .ref (y0)] h := by
  obtain ⟨Bx2, ⟨Kx2_1, Kx2_2, Kx2_3, Kx2_4, Kx2_5, Kx2_6, Kx2_7, Kx2_8, Kx2_9, Kx2_10, Kx2_11, Kx2_12, Kx2_13, Kx2_14⟩, ⟨Nx2_1, Nx2_2, Nx2_3, Nx2_4, Nx2_5, Nx2_6, Nx2_7, Nx2_8, Nx2_9, Nx2_10, Nx2_12, Nx2_13, Nx2_14⟩⟩ := tn_net Kx2_0
  obtain ⟨By0, ⟨Ky0_1, Ky0_2, Ky0_3, Ky0_4, Ky0_5, Ky0_6, Ky0_7, Ky0_8, Ky0_9, Ky0_10, Ky0_11, Ky0_12, Ky0_13, Ky0_14⟩, ⟨Ny0_1, Ny0_2, Ny0_3, Ny0_4, Ny0_5, Ny0_6, Ny0_7, Ny0_8, Ny0_9, Ny0_10, Ny0_12, Ny0_13, Ny0_14⟩⟩ := tn_net Ky0_0
  refine tf_LW_go ?_
  exact ⟨Nat.le_of_ble_eq_true rfl, Nat.le_of_ble_eq_true rfl, q⟩
set_option maxRecDepth 100000 in
theorem go_X4_obey_126 {dd : Nat} {C : tf_C} {Q : tf_Q} {h : LH} {x1 : Int32} {x2 : Nat} {y0 : Int32} (Kx2_0 : tf_K x2 = 0) (q : (vp_nar .boolean (y0) = (y0)) ∧ Q (.int (y0)) h) : lx_X4_obey dd C Q 126 [.ref (259), .int (x1), .ref (x2), .ref (241)] [.int (y0)] h := by
  obtain ⟨Bx2, ⟨Kx2_1, Kx2_2, Kx2_3, Kx2_4, Kx2_5, Kx2_6, Kx2_7, Kx2_8, Kx2_9, Kx2_10, Kx2_11, Kx2_12, Kx2_13, Kx2_14⟩, ⟨Nx2_1, Nx2_2, Nx2_3, Nx2_4, Nx2_5, Nx2_6, Nx2_7, Nx2_8, Nx2_9, Nx2_10, Nx2_12, Nx2_13, Nx2_14⟩⟩ := tn_net Kx2_0
  refine tf_LW_go ?_
  exact q
set_option maxRecDepth 100000 in
theorem go_X4_obey_127 {dd : Nat} {C : tf_C} {Q : tf_Q} {h : LH} {x1 : Int32} {x2 : Nat} (Kx2_0 : tf_K x2 = 0) (q : C 230 [.ref (259), .int (x1), .int (0)] h (fun r g => lx_X4_obey dd C Q 134 [.ref (259), .int (x1), .ref (x2), .ref (241)] (r :: [.ref (x2)]) g)) : lx_X4_obey dd C Q 127 [.ref (259), .int (x1), .ref (x2), .ref (241)] [] h := by
  obtain ⟨Bx2, ⟨Kx2_1, Kx2_2, Kx2_3, Kx2_4, Kx2_5, Kx2_6, Kx2_7, Kx2_8, Kx2_9, Kx2_10, Kx2_11, Kx2_12, Kx2_13, Kx2_14⟩, ⟨Nx2_1, Nx2_2, Nx2_3, Nx2_4, Nx2_5, Nx2_6, Nx2_7, Nx2_8, Nx2_9, Nx2_10, Nx2_12, Nx2_13, Nx2_14⟩⟩ := tn_net Kx2_0
  refine tf_LW_go ?_
  exact ⟨Nat.le_of_ble_eq_true rfl, Nat.le_of_ble_eq_true rfl, q⟩
set_option maxRecDepth 100000 in
theorem go_X4_obey_134 {dd : Nat} {C : tf_C} {Q : tf_Q} {h : LH} {x1 : Int32} {x2 : Nat} {y0 : Nat} {y1 : Int32} (Kx2_0 : tf_K x2 = 0) (Ky0_0 : tf_K y0 = 0) (q : C 125 [.ref (y0), .int (y1), .int (0)] h (fun r g => lx_X4_obey dd C Q 138 [.ref (259), .int (x1), .ref (x2), .ref (241)] (r :: []) g)) : lx_X4_obey dd C Q 134 [.ref (259), .int (x1), .ref (x2), .ref (241)] [.int (y1), .ref (y0)] h := by
  obtain ⟨Bx2, ⟨Kx2_1, Kx2_2, Kx2_3, Kx2_4, Kx2_5, Kx2_6, Kx2_7, Kx2_8, Kx2_9, Kx2_10, Kx2_11, Kx2_12, Kx2_13, Kx2_14⟩, ⟨Nx2_1, Nx2_2, Nx2_3, Nx2_4, Nx2_5, Nx2_6, Nx2_7, Nx2_8, Nx2_9, Nx2_10, Nx2_12, Nx2_13, Nx2_14⟩⟩ := tn_net Kx2_0
  obtain ⟨By0, ⟨Ky0_1, Ky0_2, Ky0_3, Ky0_4, Ky0_5, Ky0_6, Ky0_7, Ky0_8, Ky0_9, Ky0_10, Ky0_11, Ky0_12, Ky0_13, Ky0_14⟩, ⟨Ny0_1, Ny0_2, Ny0_3, Ny0_4, Ny0_5, Ny0_6, Ny0_7, Ny0_8, Ny0_9, Ny0_10, Ny0_12, Ny0_13, Ny0_14⟩⟩ := tn_net Ky0_0
  refine tf_LW_go ?_
  exact ⟨Nat.le_of_ble_eq_true rfl, Nat.le_of_ble_eq_true rfl, q⟩
set_option maxRecDepth 100000 in
theorem go_X4_obey_138 {dd : Nat} {C : tf_C} {Q : tf_Q} {h : LH} {x1 : Int32} {x2 : Nat} {y0 : Int32} (Kx2_0 : tf_K x2 = 0) (q : (vp_nar .boolean (y0) = (y0)) ∧ Q (.int (y0)) h) : lx_X4_obey dd C Q 138 [.ref (259), .int (x1), .ref (x2), .ref (241)] [.int (y0)] h := by
  obtain ⟨Bx2, ⟨Kx2_1, Kx2_2, Kx2_3, Kx2_4, Kx2_5, Kx2_6, Kx2_7, Kx2_8, Kx2_9, Kx2_10, Kx2_11, Kx2_12, Kx2_13, Kx2_14⟩, ⟨Nx2_1, Nx2_2, Nx2_3, Nx2_4, Nx2_5, Nx2_6, Nx2_7, Nx2_8, Nx2_9, Nx2_10, Nx2_12, Nx2_13, Nx2_14⟩⟩ := tn_net Kx2_0
  refine tf_LW_go ?_
  exact q
set_option maxRecDepth 100000 in
theorem go_X4_obey_139 {dd : Nat} {C : tf_C} {Q : tf_Q} {h : LH} {x1 : Int32} {x2 : Nat} (Kx2_0 : tf_K x2 = 0) (q : C 230 [.ref (259), .int (x1), .int (0)] h (fun r g => lx_X4_obey dd C Q 146 [.ref (259), .int (x1), .ref (x2), .ref (241)] (r :: [.ref (x2)]) g)) : lx_X4_obey dd C Q 139 [.ref (259), .int (x1), .ref (x2), .ref (241)] [] h := by
  obtain ⟨Bx2, ⟨Kx2_1, Kx2_2, Kx2_3, Kx2_4, Kx2_5, Kx2_6, Kx2_7, Kx2_8, Kx2_9, Kx2_10, Kx2_11, Kx2_12, Kx2_13, Kx2_14⟩, ⟨Nx2_1, Nx2_2, Nx2_3, Nx2_4, Nx2_5, Nx2_6, Nx2_7, Nx2_8, Nx2_9, Nx2_10, Nx2_12, Nx2_13, Nx2_14⟩⟩ := tn_net Kx2_0
  refine tf_LW_go ?_
  exact ⟨Nat.le_of_ble_eq_true rfl, Nat.le_of_ble_eq_true rfl, q⟩
set_option maxRecDepth 100000 in
theorem go_X4_obey_146 {dd : Nat} {C : tf_C} {Q : tf_Q} {h : LH} {x1 : Int32} {x2 : Nat} {y0 : Nat} {y1 : Int32} (Kx2_0 : tf_K x2 = 0) (Ky0_0 : tf_K y0 = 0) (q : C 125 [.ref (y0), .int (y1), .int (1)] h (fun r g => lx_X4_obey dd C Q 150 [.ref (259), .int (x1), .ref (x2), .ref (241)] (r :: []) g)) : lx_X4_obey dd C Q 146 [.ref (259), .int (x1), .ref (x2), .ref (241)] [.int (y1), .ref (y0)] h := by
  obtain ⟨Bx2, ⟨Kx2_1, Kx2_2, Kx2_3, Kx2_4, Kx2_5, Kx2_6, Kx2_7, Kx2_8, Kx2_9, Kx2_10, Kx2_11, Kx2_12, Kx2_13, Kx2_14⟩, ⟨Nx2_1, Nx2_2, Nx2_3, Nx2_4, Nx2_5, Nx2_6, Nx2_7, Nx2_8, Nx2_9, Nx2_10, Nx2_12, Nx2_13, Nx2_14⟩⟩ := tn_net Kx2_0
  obtain ⟨By0, ⟨Ky0_1, Ky0_2, Ky0_3, Ky0_4, Ky0_5, Ky0_6, Ky0_7, Ky0_8, Ky0_9, Ky0_10, Ky0_11, Ky0_12, Ky0_13, Ky0_14⟩, ⟨Ny0_1, Ny0_2, Ny0_3, Ny0_4, Ny0_5, Ny0_6, Ny0_7, Ny0_8, Ny0_9, Ny0_10, Ny0_12, Ny0_13, Ny0_14⟩⟩ := tn_net Ky0_0
  refine tf_LW_go ?_
  exact ⟨Nat.le_of_ble_eq_true rfl, Nat.le_of_ble_eq_true rfl, q⟩
set_option maxRecDepth 100000 in
theorem go_X4_obey_150 {dd : Nat} {C : tf_C} {Q : tf_Q} {h : LH} {x1 : Int32} {x2 : Nat} {y0 : Int32} (Kx2_0 : tf_K x2 = 0) (q : (vp_nar .boolean (y0) = (y0)) ∧ Q (.int (y0)) h) : lx_X4_obey dd C Q 150 [.ref (259), .int (x1), .ref (x2), .ref (241)] [.int (y0)] h := by
  obtain ⟨Bx2, ⟨Kx2_1, Kx2_2, Kx2_3, Kx2_4, Kx2_5, Kx2_6, Kx2_7, Kx2_8, Kx2_9, Kx2_10, Kx2_11, Kx2_12, Kx2_13, Kx2_14⟩, ⟨Nx2_1, Nx2_2, Nx2_3, Nx2_4, Nx2_5, Nx2_6, Nx2_7, Nx2_8, Nx2_9, Nx2_10, Nx2_12, Nx2_13, Nx2_14⟩⟩ := tn_net Kx2_0
  refine tf_LW_go ?_
  exact q
set_option maxRecDepth 100000 in
theorem go_X4_obey_151 {dd : Nat} {C : tf_C} {Q : tf_Q} {h : LH} {x1 : Int32} {x2 : Nat} (Kx2_0 : tf_K x2 = 0) (q : C 230 [.ref (259), .int (x1), .int (0)] h (fun r g => lx_X4_obey dd C Q 158 [.ref (259), .int (x1), .ref (x2), .ref (241)] (r :: [.ref (x2)]) g)) : lx_X4_obey dd C Q 151 [.ref (259), .int (x1), .ref (x2), .ref (241)] [] h := by
  obtain ⟨Bx2, ⟨Kx2_1, Kx2_2, Kx2_3, Kx2_4, Kx2_5, Kx2_6, Kx2_7, Kx2_8, Kx2_9, Kx2_10, Kx2_11, Kx2_12, Kx2_13, Kx2_14⟩, ⟨Nx2_1, Nx2_2, Nx2_3, Nx2_4, Nx2_5, Nx2_6, Nx2_7, Nx2_8, Nx2_9, Nx2_10, Nx2_12, Nx2_13, Nx2_14⟩⟩ := tn_net Kx2_0
  refine tf_LW_go ?_
  exact ⟨Nat.le_of_ble_eq_true rfl, Nat.le_of_ble_eq_true rfl, q⟩
set_option maxRecDepth 100000 in
theorem go_X4_obey_158 {dd : Nat} {C : tf_C} {Q : tf_Q} {h : LH} {x1 : Int32} {x2 : Nat} {y0 : Nat} {y1 : Int32} (Kx2_0 : tf_K x2 = 0) (Ky0_0 : tf_K y0 = 0) (q : C 230 [.ref (259), .int (x1), .int (1)] h (fun r g => lx_X4_obey dd C Q 164 [.ref (259), .int (x1), .ref (x2), .ref (241)] (r :: [.int (y1), .ref (y0)]) g)) : lx_X4_obey dd C Q 158 [.ref (259), .int (x1), .ref (x2), .ref (241)] [.int (y1), .ref (y0)] h := by
  obtain ⟨Bx2, ⟨Kx2_1, Kx2_2, Kx2_3, Kx2_4, Kx2_5, Kx2_6, Kx2_7, Kx2_8, Kx2_9, Kx2_10, Kx2_11, Kx2_12, Kx2_13, Kx2_14⟩, ⟨Nx2_1, Nx2_2, Nx2_3, Nx2_4, Nx2_5, Nx2_6, Nx2_7, Nx2_8, Nx2_9, Nx2_10, Nx2_12, Nx2_13, Nx2_14⟩⟩ := tn_net Kx2_0
  obtain ⟨By0, ⟨Ky0_1, Ky0_2, Ky0_3, Ky0_4, Ky0_5, Ky0_6, Ky0_7, Ky0_8, Ky0_9, Ky0_10, Ky0_11, Ky0_12, Ky0_13, Ky0_14⟩, ⟨Ny0_1, Ny0_2, Ny0_3, Ny0_4, Ny0_5, Ny0_6, Ny0_7, Ny0_8, Ny0_9, Ny0_10, Ny0_12, Ny0_13, Ny0_14⟩⟩ := tn_net Ky0_0
  refine tf_LW_go ?_
  exact ⟨Nat.le_of_ble_eq_true rfl, Nat.le_of_ble_eq_true rfl, q⟩
set_option maxRecDepth 100000 in
theorem go_X4_obey_164 {dd : Nat} {C : tf_C} {Q : tf_Q} {h : LH} {x1 : Int32} {x2 : Nat} {y0 : Nat} {y1 : Int32} {y2 : Int32} (Kx2_0 : tf_K x2 = 0) (Ky0_0 : tf_K y0 = 0) (q : C 126 [.ref (y0), .int (y1), .int (y2)] h (fun r g => lx_X4_obey dd C Q 167 [.ref (259), .int (x1), .ref (x2), .ref (241)] (r :: []) g)) : lx_X4_obey dd C Q 164 [.ref (259), .int (x1), .ref (x2), .ref (241)] [.int (y2), .int (y1), .ref (y0)] h := by
  obtain ⟨Bx2, ⟨Kx2_1, Kx2_2, Kx2_3, Kx2_4, Kx2_5, Kx2_6, Kx2_7, Kx2_8, Kx2_9, Kx2_10, Kx2_11, Kx2_12, Kx2_13, Kx2_14⟩, ⟨Nx2_1, Nx2_2, Nx2_3, Nx2_4, Nx2_5, Nx2_6, Nx2_7, Nx2_8, Nx2_9, Nx2_10, Nx2_12, Nx2_13, Nx2_14⟩⟩ := tn_net Kx2_0
  obtain ⟨By0, ⟨Ky0_1, Ky0_2, Ky0_3, Ky0_4, Ky0_5, Ky0_6, Ky0_7, Ky0_8, Ky0_9, Ky0_10, Ky0_11, Ky0_12, Ky0_13, Ky0_14⟩, ⟨Ny0_1, Ny0_2, Ny0_3, Ny0_4, Ny0_5, Ny0_6, Ny0_7, Ny0_8, Ny0_9, Ny0_10, Ny0_12, Ny0_13, Ny0_14⟩⟩ := tn_net Ky0_0
  refine tf_LW_go ?_
  exact ⟨Nat.le_of_ble_eq_true rfl, Nat.le_of_ble_eq_true rfl, q⟩
set_option maxRecDepth 100000 in
theorem go_X4_obey_167 {dd : Nat} {C : tf_C} {Q : tf_Q} {h : LH} {x1 : Int32} {x2 : Nat} {y0 : Int32} (Kx2_0 : tf_K x2 = 0) (q : (vp_nar .boolean (y0) = (y0)) ∧ Q (.int (y0)) h) : lx_X4_obey dd C Q 167 [.ref (259), .int (x1), .ref (x2), .ref (241)] [.int (y0)] h := by
  obtain ⟨Bx2, ⟨Kx2_1, Kx2_2, Kx2_3, Kx2_4, Kx2_5, Kx2_6, Kx2_7, Kx2_8, Kx2_9, Kx2_10, Kx2_11, Kx2_12, Kx2_13, Kx2_14⟩, ⟨Nx2_1, Nx2_2, Nx2_3, Nx2_4, Nx2_5, Nx2_6, Nx2_7, Nx2_8, Nx2_9, Nx2_10, Nx2_12, Nx2_13, Nx2_14⟩⟩ := tn_net Kx2_0
  refine tf_LW_go ?_
  exact q
set_option maxRecDepth 100000 in
theorem go_X4_obey_168 {dd : Nat} {C : tf_C} {Q : tf_Q} {h : LH} {x1 : Int32} {x2 : Nat} (Kx2_0 : tf_K x2 = 0) (q : C 230 [.ref (259), .int (x1), .int (0)] h (fun r g => lx_X4_obey dd C Q 175 [.ref (259), .int (x1), .ref (x2), .ref (241)] (r :: [.ref (x2)]) g)) : lx_X4_obey dd C Q 168 [.ref (259), .int (x1), .ref (x2), .ref (241)] [] h := by
  obtain ⟨Bx2, ⟨Kx2_1, Kx2_2, Kx2_3, Kx2_4, Kx2_5, Kx2_6, Kx2_7, Kx2_8, Kx2_9, Kx2_10, Kx2_11, Kx2_12, Kx2_13, Kx2_14⟩, ⟨Nx2_1, Nx2_2, Nx2_3, Nx2_4, Nx2_5, Nx2_6, Nx2_7, Nx2_8, Nx2_9, Nx2_10, Nx2_12, Nx2_13, Nx2_14⟩⟩ := tn_net Kx2_0
  refine tf_LW_go ?_
  exact ⟨Nat.le_of_ble_eq_true rfl, Nat.le_of_ble_eq_true rfl, q⟩
set_option maxRecDepth 100000 in
theorem go_X4_obey_175 {dd : Nat} {C : tf_C} {Q : tf_Q} {h : LH} {x1 : Int32} {x2 : Nat} {y0 : Nat} {y1 : Int32} (Kx2_0 : tf_K x2 = 0) (Ky0_0 : tf_K y0 = 0) (q : C 230 [.ref (259), .int (x1), .int (1)] h (fun r g => lx_X4_obey dd C Q 181 [.ref (259), .int (x1), .ref (x2), .ref (241)] (r :: [.int (y1), .ref (y0)]) g)) : lx_X4_obey dd C Q 175 [.ref (259), .int (x1), .ref (x2), .ref (241)] [.int (y1), .ref (y0)] h := by
  obtain ⟨Bx2, ⟨Kx2_1, Kx2_2, Kx2_3, Kx2_4, Kx2_5, Kx2_6, Kx2_7, Kx2_8, Kx2_9, Kx2_10, Kx2_11, Kx2_12, Kx2_13, Kx2_14⟩, ⟨Nx2_1, Nx2_2, Nx2_3, Nx2_4, Nx2_5, Nx2_6, Nx2_7, Nx2_8, Nx2_9, Nx2_10, Nx2_12, Nx2_13, Nx2_14⟩⟩ := tn_net Kx2_0
  obtain ⟨By0, ⟨Ky0_1, Ky0_2, Ky0_3, Ky0_4, Ky0_5, Ky0_6, Ky0_7, Ky0_8, Ky0_9, Ky0_10, Ky0_11, Ky0_12, Ky0_13, Ky0_14⟩, ⟨Ny0_1, Ny0_2, Ny0_3, Ny0_4, Ny0_5, Ny0_6, Ny0_7, Ny0_8, Ny0_9, Ny0_10, Ny0_12, Ny0_13, Ny0_14⟩⟩ := tn_net Ky0_0
  refine tf_LW_go ?_
  exact ⟨Nat.le_of_ble_eq_true rfl, Nat.le_of_ble_eq_true rfl, q⟩
set_option maxRecDepth 100000 in
theorem go_X4_obey_181 {dd : Nat} {C : tf_C} {Q : tf_Q} {h : LH} {x1 : Int32} {x2 : Nat} {y0 : Nat} {y1 : Int32} {y2 : Int32} (Kx2_0 : tf_K x2 = 0) (Ky0_0 : tf_K y0 = 0) (q : C 127 [.ref (y0), .int (y1), .int (y2)] h (fun r g => lx_X4_obey dd C Q 184 [.ref (259), .int (x1), .ref (x2), .ref (241)] (r :: []) g)) : lx_X4_obey dd C Q 181 [.ref (259), .int (x1), .ref (x2), .ref (241)] [.int (y2), .int (y1), .ref (y0)] h := by
  obtain ⟨Bx2, ⟨Kx2_1, Kx2_2, Kx2_3, Kx2_4, Kx2_5, Kx2_6, Kx2_7, Kx2_8, Kx2_9, Kx2_10, Kx2_11, Kx2_12, Kx2_13, Kx2_14⟩, ⟨Nx2_1, Nx2_2, Nx2_3, Nx2_4, Nx2_5, Nx2_6, Nx2_7, Nx2_8, Nx2_9, Nx2_10, Nx2_12, Nx2_13, Nx2_14⟩⟩ := tn_net Kx2_0
  obtain ⟨By0, ⟨Ky0_1, Ky0_2, Ky0_3, Ky0_4, Ky0_5, Ky0_6, Ky0_7, Ky0_8, Ky0_9, Ky0_10, Ky0_11, Ky0_12, Ky0_13, Ky0_14⟩, ⟨Ny0_1, Ny0_2, Ny0_3, Ny0_4, Ny0_5, Ny0_6, Ny0_7, Ny0_8, Ny0_9, Ny0_10, Ny0_12, Ny0_13, Ny0_14⟩⟩ := tn_net Ky0_0
  refine tf_LW_go ?_
  exact ⟨Nat.le_of_ble_eq_true rfl, Nat.le_of_ble_eq_true rfl, q⟩
set_option maxRecDepth 100000 in
theorem go_X4_obey_184 {dd : Nat} {C : tf_C} {Q : tf_Q} {h : LH} {x1 : Int32} {x2 : Nat} {y0 : Int32} (Kx2_0 : tf_K x2 = 0) (q : (vp_nar .boolean (y0) = (y0)) ∧ Q (.int (y0)) h) : lx_X4_obey dd C Q 184 [.ref (259), .int (x1), .ref (x2), .ref (241)] [.int (y0)] h := by
  obtain ⟨Bx2, ⟨Kx2_1, Kx2_2, Kx2_3, Kx2_4, Kx2_5, Kx2_6, Kx2_7, Kx2_8, Kx2_9, Kx2_10, Kx2_11, Kx2_12, Kx2_13, Kx2_14⟩, ⟨Nx2_1, Nx2_2, Nx2_3, Nx2_4, Nx2_5, Nx2_6, Nx2_7, Nx2_8, Nx2_9, Nx2_10, Nx2_12, Nx2_13, Nx2_14⟩⟩ := tn_net Kx2_0
  refine tf_LW_go ?_
  exact q
set_option maxRecDepth 100000 in
theorem go_X4_obey_185 {dd : Nat} {C : tf_C} {Q : tf_Q} {h : LH} {x1 : Int32} {x2 : Nat} (Kx2_0 : tf_K x2 = 0) (q : C 230 [.ref (259), .int (x1), .int (0)] h (fun r g => lx_X4_obey dd C Q 192 [.ref (259), .int (x1), .ref (x2), .ref (241)] (r :: [.ref (x2)]) g)) : lx_X4_obey dd C Q 185 [.ref (259), .int (x1), .ref (x2), .ref (241)] [] h := by
  obtain ⟨Bx2, ⟨Kx2_1, Kx2_2, Kx2_3, Kx2_4, Kx2_5, Kx2_6, Kx2_7, Kx2_8, Kx2_9, Kx2_10, Kx2_11, Kx2_12, Kx2_13, Kx2_14⟩, ⟨Nx2_1, Nx2_2, Nx2_3, Nx2_4, Nx2_5, Nx2_6, Nx2_7, Nx2_8, Nx2_9, Nx2_10, Nx2_12, Nx2_13, Nx2_14⟩⟩ := tn_net Kx2_0
  refine tf_LW_go ?_
  exact ⟨Nat.le_of_ble_eq_true rfl, Nat.le_of_ble_eq_true rfl, q⟩
set_option maxRecDepth 100000 in
theorem go_X4_obey_192 {dd : Nat} {C : tf_C} {Q : tf_Q} {h : LH} {x1 : Int32} {x2 : Nat} {y0 : Nat} {y1 : Int32} (Kx2_0 : tf_K x2 = 0) (Ky0_0 : tf_K y0 = 0) (q : C 230 [.ref (259), .int (x1), .int (1)] h (fun r g => lx_X4_obey dd C Q 198 [.ref (259), .int (x1), .ref (x2), .ref (241)] (r :: [.int (y1), .ref (y0)]) g)) : lx_X4_obey dd C Q 192 [.ref (259), .int (x1), .ref (x2), .ref (241)] [.int (y1), .ref (y0)] h := by
  obtain ⟨Bx2, ⟨Kx2_1, Kx2_2, Kx2_3, Kx2_4, Kx2_5, Kx2_6, Kx2_7, Kx2_8, Kx2_9, Kx2_10, Kx2_11, Kx2_12, Kx2_13, Kx2_14⟩, ⟨Nx2_1, Nx2_2, Nx2_3, Nx2_4, Nx2_5, Nx2_6, Nx2_7, Nx2_8, Nx2_9, Nx2_10, Nx2_12, Nx2_13, Nx2_14⟩⟩ := tn_net Kx2_0
  obtain ⟨By0, ⟨Ky0_1, Ky0_2, Ky0_3, Ky0_4, Ky0_5, Ky0_6, Ky0_7, Ky0_8, Ky0_9, Ky0_10, Ky0_11, Ky0_12, Ky0_13, Ky0_14⟩, ⟨Ny0_1, Ny0_2, Ny0_3, Ny0_4, Ny0_5, Ny0_6, Ny0_7, Ny0_8, Ny0_9, Ny0_10, Ny0_12, Ny0_13, Ny0_14⟩⟩ := tn_net Ky0_0
  refine tf_LW_go ?_
  exact ⟨Nat.le_of_ble_eq_true rfl, Nat.le_of_ble_eq_true rfl, q⟩
set_option maxRecDepth 100000 in
theorem go_X4_obey_198 {dd : Nat} {C : tf_C} {Q : tf_Q} {h : LH} {x1 : Int32} {x2 : Nat} {y0 : Nat} {y1 : Int32} {y2 : Int32} (Kx2_0 : tf_K x2 = 0) (Ky0_0 : tf_K y0 = 0) (q : C 127 [.ref (y0), .int (y1), .int (-y2)] h (fun r g => lx_X4_obey dd C Q 202 [.ref (259), .int (x1), .ref (x2), .ref (241)] (r :: []) g)) : lx_X4_obey dd C Q 198 [.ref (259), .int (x1), .ref (x2), .ref (241)] [.int (y2), .int (y1), .ref (y0)] h := by
  obtain ⟨Bx2, ⟨Kx2_1, Kx2_2, Kx2_3, Kx2_4, Kx2_5, Kx2_6, Kx2_7, Kx2_8, Kx2_9, Kx2_10, Kx2_11, Kx2_12, Kx2_13, Kx2_14⟩, ⟨Nx2_1, Nx2_2, Nx2_3, Nx2_4, Nx2_5, Nx2_6, Nx2_7, Nx2_8, Nx2_9, Nx2_10, Nx2_12, Nx2_13, Nx2_14⟩⟩ := tn_net Kx2_0
  obtain ⟨By0, ⟨Ky0_1, Ky0_2, Ky0_3, Ky0_4, Ky0_5, Ky0_6, Ky0_7, Ky0_8, Ky0_9, Ky0_10, Ky0_11, Ky0_12, Ky0_13, Ky0_14⟩, ⟨Ny0_1, Ny0_2, Ny0_3, Ny0_4, Ny0_5, Ny0_6, Ny0_7, Ny0_8, Ny0_9, Ny0_10, Ny0_12, Ny0_13, Ny0_14⟩⟩ := tn_net Ky0_0
  refine tf_LW_go ?_
  exact ⟨Nat.le_of_ble_eq_true rfl, Nat.le_of_ble_eq_true rfl, q⟩
set_option maxRecDepth 100000 in
theorem go_X4_obey_202 {dd : Nat} {C : tf_C} {Q : tf_Q} {h : LH} {x1 : Int32} {x2 : Nat} {y0 : Int32} (Kx2_0 : tf_K x2 = 0) (q : (vp_nar .boolean (y0) = (y0)) ∧ Q (.int (y0)) h) : lx_X4_obey dd C Q 202 [.ref (259), .int (x1), .ref (x2), .ref (241)] [.int (y0)] h := by
  obtain ⟨Bx2, ⟨Kx2_1, Kx2_2, Kx2_3, Kx2_4, Kx2_5, Kx2_6, Kx2_7, Kx2_8, Kx2_9, Kx2_10, Kx2_11, Kx2_12, Kx2_13, Kx2_14⟩, ⟨Nx2_1, Nx2_2, Nx2_3, Nx2_4, Nx2_5, Nx2_6, Nx2_7, Nx2_8, Nx2_9, Nx2_10, Nx2_12, Nx2_13, Nx2_14⟩⟩ := tn_net Kx2_0
  refine tf_LW_go ?_
  exact q
set_option maxRecDepth 100000 in
theorem go_X4_obey_203 {dd : Nat} {C : tf_C} {Q : tf_Q} {h : LH} {x1 : Int32} {x2 : Nat} (Kx2_0 : tf_K x2 = 0) (q : C 128 [.ref (x2), .int (0)] h (fun r g => lx_X4_obey dd C Q 208 [.ref (259), .int (x1), .ref (x2), .ref (241)] [] g)) : lx_X4_obey dd C Q 203 [.ref (259), .int (x1), .ref (x2), .ref (241)] [] h := by
  obtain ⟨Bx2, ⟨Kx2_1, Kx2_2, Kx2_3, Kx2_4, Kx2_5, Kx2_6, Kx2_7, Kx2_8, Kx2_9, Kx2_10, Kx2_11, Kx2_12, Kx2_13, Kx2_14⟩, ⟨Nx2_1, Nx2_2, Nx2_3, Nx2_4, Nx2_5, Nx2_6, Nx2_7, Nx2_8, Nx2_9, Nx2_10, Nx2_12, Nx2_13, Nx2_14⟩⟩ := tn_net Kx2_0
  refine tf_LW_go ?_
  exact ⟨Nat.le_of_ble_eq_true rfl, Nat.le_of_ble_eq_true rfl, q⟩
set_option maxRecDepth 100000 in
theorem go_X4_obey_208 {dd : Nat} {C : tf_C} {Q : tf_Q} {h : LH} {x1 : Int32} {x2 : Nat} (Kx2_0 : tf_K x2 = 0) (q : Q (.int (1)) h) : lx_X4_obey dd C Q 208 [.ref (259), .int (x1), .ref (x2), .ref (241)] [] h := by
  obtain ⟨Bx2, ⟨Kx2_1, Kx2_2, Kx2_3, Kx2_4, Kx2_5, Kx2_6, Kx2_7, Kx2_8, Kx2_9, Kx2_10, Kx2_11, Kx2_12, Kx2_13, Kx2_14⟩, ⟨Nx2_1, Nx2_2, Nx2_3, Nx2_4, Nx2_5, Nx2_6, Nx2_7, Nx2_8, Nx2_9, Nx2_10, Nx2_12, Nx2_13, Nx2_14⟩⟩ := tn_net Kx2_0
  refine tf_LW_go ?_
  exact ⟨(by first | rfl | trivial), q⟩
set_option maxRecDepth 100000 in
theorem go_X4_obey_210 {dd : Nat} {C : tf_C} {Q : tf_Q} {h : LH} {x1 : Int32} {x2 : Nat} (Kx2_0 : tf_K x2 = 0) (q : C 123 [.ref (x2), .int (0)] h (fun r g => lx_X4_obey dd C Q 215 [.ref (259), .int (x1), .ref (x2), .ref (241)] (r :: []) g)) : lx_X4_obey dd C Q 210 [.ref (259), .int (x1), .ref (x2), .ref (241)] [] h := by
  obtain ⟨Bx2, ⟨Kx2_1, Kx2_2, Kx2_3, Kx2_4, Kx2_5, Kx2_6, Kx2_7, Kx2_8, Kx2_9, Kx2_10, Kx2_11, Kx2_12, Kx2_13, Kx2_14⟩, ⟨Nx2_1, Nx2_2, Nx2_3, Nx2_4, Nx2_5, Nx2_6, Nx2_7, Nx2_8, Nx2_9, Nx2_10, Nx2_12, Nx2_13, Nx2_14⟩⟩ := tn_net Kx2_0
  refine tf_LW_go ?_
  exact ⟨Nat.le_of_ble_eq_true rfl, Nat.le_of_ble_eq_true rfl, q⟩
set_option maxRecDepth 100000 in
theorem go_X4_obey_215 {dd : Nat} {C : tf_C} {Q : tf_Q} {h : LH} {x1 : Int32} {x2 : Nat} {y0 : Int32} (Kx2_0 : tf_K x2 = 0) (q : (vp_nar .boolean (y0) = (y0)) ∧ Q (.int (y0)) h) : lx_X4_obey dd C Q 215 [.ref (259), .int (x1), .ref (x2), .ref (241)] [.int (y0)] h := by
  obtain ⟨Bx2, ⟨Kx2_1, Kx2_2, Kx2_3, Kx2_4, Kx2_5, Kx2_6, Kx2_7, Kx2_8, Kx2_9, Kx2_10, Kx2_11, Kx2_12, Kx2_13, Kx2_14⟩, ⟨Nx2_1, Nx2_2, Nx2_3, Nx2_4, Nx2_5, Nx2_6, Nx2_7, Nx2_8, Nx2_9, Nx2_10, Nx2_12, Nx2_13, Nx2_14⟩⟩ := tn_net Kx2_0
  refine tf_LW_go ?_
  exact q
set_option maxRecDepth 100000 in
theorem go_X4_obey_216 {dd : Nat} {C : tf_C} {Q : tf_Q} {h : LH} {x1 : Int32} {x2 : Nat} (Kx2_0 : tf_K x2 = 0) (q : C 123 [.ref (x2), .int (1)] h (fun r g => lx_X4_obey dd C Q 221 [.ref (259), .int (x1), .ref (x2), .ref (241)] (r :: []) g)) : lx_X4_obey dd C Q 216 [.ref (259), .int (x1), .ref (x2), .ref (241)] [] h := by
  obtain ⟨Bx2, ⟨Kx2_1, Kx2_2, Kx2_3, Kx2_4, Kx2_5, Kx2_6, Kx2_7, Kx2_8, Kx2_9, Kx2_10, Kx2_11, Kx2_12, Kx2_13, Kx2_14⟩, ⟨Nx2_1, Nx2_2, Nx2_3, Nx2_4, Nx2_5, Nx2_6, Nx2_7, Nx2_8, Nx2_9, Nx2_10, Nx2_12, Nx2_13, Nx2_14⟩⟩ := tn_net Kx2_0
  refine tf_LW_go ?_
  exact ⟨Nat.le_of_ble_eq_true rfl, Nat.le_of_ble_eq_true rfl, q⟩
set_option maxRecDepth 100000 in
theorem go_X4_obey_221 {dd : Nat} {C : tf_C} {Q : tf_Q} {h : LH} {x1 : Int32} {x2 : Nat} {y0 : Int32} (Kx2_0 : tf_K x2 = 0) (q : (vp_nar .boolean (y0) = (y0)) ∧ Q (.int (y0)) h) : lx_X4_obey dd C Q 221 [.ref (259), .int (x1), .ref (x2), .ref (241)] [.int (y0)] h := by
  obtain ⟨Bx2, ⟨Kx2_1, Kx2_2, Kx2_3, Kx2_4, Kx2_5, Kx2_6, Kx2_7, Kx2_8, Kx2_9, Kx2_10, Kx2_11, Kx2_12, Kx2_13, Kx2_14⟩, ⟨Nx2_1, Nx2_2, Nx2_3, Nx2_4, Nx2_5, Nx2_6, Nx2_7, Nx2_8, Nx2_9, Nx2_10, Nx2_12, Nx2_13, Nx2_14⟩⟩ := tn_net Kx2_0
  refine tf_LW_go ?_
  exact q
set_option maxRecDepth 100000 in
theorem go_X4_obey_222 {dd : Nat} {C : tf_C} {Q : tf_Q} {h : LH} {x1 : Int32} {x2 : Nat} (Kx2_0 : tf_K x2 = 0) (q : C 123 [.ref (x2), .int (2)] h (fun r g => lx_X4_obey dd C Q 227 [.ref (259), .int (x1), .ref (x2), .ref (241)] (r :: []) g)) : lx_X4_obey dd C Q 222 [.ref (259), .int (x1), .ref (x2), .ref (241)] [] h := by
  obtain ⟨Bx2, ⟨Kx2_1, Kx2_2, Kx2_3, Kx2_4, Kx2_5, Kx2_6, Kx2_7, Kx2_8, Kx2_9, Kx2_10, Kx2_11, Kx2_12, Kx2_13, Kx2_14⟩, ⟨Nx2_1, Nx2_2, Nx2_3, Nx2_4, Nx2_5, Nx2_6, Nx2_7, Nx2_8, Nx2_9, Nx2_10, Nx2_12, Nx2_13, Nx2_14⟩⟩ := tn_net Kx2_0
  refine tf_LW_go ?_
  exact ⟨Nat.le_of_ble_eq_true rfl, Nat.le_of_ble_eq_true rfl, q⟩
set_option maxRecDepth 100000 in
theorem go_X4_obey_227 {dd : Nat} {C : tf_C} {Q : tf_Q} {h : LH} {x1 : Int32} {x2 : Nat} {y0 : Int32} (Kx2_0 : tf_K x2 = 0) (q : (vp_nar .boolean (y0) = (y0)) ∧ Q (.int (y0)) h) : lx_X4_obey dd C Q 227 [.ref (259), .int (x1), .ref (x2), .ref (241)] [.int (y0)] h := by
  obtain ⟨Bx2, ⟨Kx2_1, Kx2_2, Kx2_3, Kx2_4, Kx2_5, Kx2_6, Kx2_7, Kx2_8, Kx2_9, Kx2_10, Kx2_11, Kx2_12, Kx2_13, Kx2_14⟩, ⟨Nx2_1, Nx2_2, Nx2_3, Nx2_4, Nx2_5, Nx2_6, Nx2_7, Nx2_8, Nx2_9, Nx2_10, Nx2_12, Nx2_13, Nx2_14⟩⟩ := tn_net Kx2_0
  refine tf_LW_go ?_
  exact q
set_option maxRecDepth 100000 in
theorem go_X4_obey_228 {dd : Nat} {C : tf_C} {Q : tf_Q} {h : LH} {x1 : Int32} {x2 : Nat} (Kx2_0 : tf_K x2 = 0) (q : Q (.int (0)) h) : lx_X4_obey dd C Q 228 [.ref (259), .int (x1), .ref (x2), .ref (241)] [] h := by
  obtain ⟨Bx2, ⟨Kx2_1, Kx2_2, Kx2_3, Kx2_4, Kx2_5, Kx2_6, Kx2_7, Kx2_8, Kx2_9, Kx2_10, Kx2_11, Kx2_12, Kx2_13, Kx2_14⟩, ⟨Nx2_1, Nx2_2, Nx2_3, Nx2_4, Nx2_5, Nx2_6, Nx2_7, Nx2_8, Nx2_9, Nx2_10, Nx2_12, Nx2_13, Nx2_14⟩⟩ := tn_net Kx2_0
  refine tf_LW_go ?_
  exact ⟨(by first | rfl | trivial), q⟩
