/-! ===== the methods, block by block (printed by program) ===== -/
abbrev lx_X3_way (nc : Nat) (C : tf_C) (Q : tf_Q) : tf_X := tf_LW nc C (tf_F 2) (tf_M 2) (tf_I 2) (tf_Eh 157) 0 tb_X3_way Q
set_option maxRecDepth 100000 in
theorem go_X3_way_0 {nc : Nat} {C : tf_C} {Q : tf_Q} {h : LH} (hn : 270 ≤ nc) {x1 : Nat} {x2 : Int32} {x3 : Int32} (Kx1_0 : tf_K x1 = 0) (q : C 166 [.ref (x1), .int (x2), .int (x3)] (tf_up h.1 241 2 0, h.2) (fun r g => lx_X3_way nc C Q 12 [.ref (241), .ref (x1), .int (x2), .int (x3)] (r :: [.ref (241)]) g)) : lx_X3_way nc C Q 0 [.ref (241), .ref (x1), .int (x2), .int (x3)] [] h := by
  obtain ⟨Bx1, ⟨Kx1_1, Kx1_2, Kx1_3, Kx1_4, Kx1_5, Kx1_6, Kx1_7, Kx1_8, Kx1_9, Kx1_10, Kx1_11, Kx1_12, Kx1_13, Kx1_14⟩, ⟨Nx1_1, Nx1_2, Nx1_3, Nx1_4, Nx1_5, Nx1_6, Nx1_7, Nx1_8, Nx1_9, Nx1_10, Nx1_12, Nx1_13, Nx1_14⟩⟩ := tn_net Kx1_0
  refine tf_LW_go ?_
  exact ⟨⟨(by first | rfl | trivial), (show 241 < nc by omega), (by first | rfl | trivial)⟩, ⟨Nat.le_of_ble_eq_true rfl, Nat.le_of_ble_eq_true rfl, q⟩⟩
theorem en_X3_way {nc d : Nat} {Q : tf_Q} {h : LH} (hn : 270 ≤ nc) {x1 : Nat} {x2 : Int32} {x3 : Int32} (Kx1_0 : tf_K x1 = 0) (q : lx_X3_way nc (tf_Cd nc d) Q 0 [.ref (241), .ref (x1), .int (x2), .int (x3)] [] h) : tf_Cd nc (d + 1) 157 [.ref (241), .ref (x1), .int (x2), .int (x3)] h Q := by
  obtain ⟨Bx1, ⟨Kx1_1, Kx1_2, Kx1_3, Kx1_4, Kx1_5, Kx1_6, Kx1_7, Kx1_8, Kx1_9, Kx1_10, Kx1_11, Kx1_12, Kx1_13, Kx1_14⟩, ⟨Nx1_1, Nx1_2, Nx1_3, Nx1_4, Nx1_5, Nx1_6, Nx1_7, Nx1_8, Nx1_9, Nx1_10, Nx1_12, Nx1_13, Nx1_14⟩⟩ := tn_net Kx1_0
  exact ⟨⟨Nat.le_of_ble_eq_true rfl, Or.inr ⟨rfl, (show 241 < nc by omega)⟩⟩, q⟩
set_option maxRecDepth 100000 in
theorem go_X3_way_12 {nc : Nat} {C : tf_C} {Q : tf_Q} {h : LH} (hn : 270 ≤ nc) {x1 : Nat} {x2 : Int32} {x3 : Int32} {y1 : Int32} (Kx1_0 : tf_K x1 = 0) (q : C 167 [.ref (241), .ref (x1), .int (x2)] (tf_up h.1 241 3 y1, h.2) (fun r g => lx_X3_way nc C Q 21 [.ref (241), .ref (x1), .int (x2), .int (x3)] [] g)) : lx_X3_way nc C Q 12 [.ref (241), .ref (x1), .int (x2), .int (x3)] [.int (y1), .ref (241)] h := by
  obtain ⟨Bx1, ⟨Kx1_1, Kx1_2, Kx1_3, Kx1_4, Kx1_5, Kx1_6, Kx1_7, Kx1_8, Kx1_9, Kx1_10, Kx1_11, Kx1_12, Kx1_13, Kx1_14⟩, ⟨Nx1_1, Nx1_2, Nx1_3, Nx1_4, Nx1_5, Nx1_6, Nx1_7, Nx1_8, Nx1_9, Nx1_10, Nx1_12, Nx1_13, Nx1_14⟩⟩ := tn_net Kx1_0
  refine tf_LW_go ?_
  exact ⟨⟨(by first | rfl | trivial), (show 241 < nc by omega), (by first | rfl | trivial)⟩, ⟨Nat.le_of_ble_eq_true rfl, Nat.le_of_ble_eq_true rfl, q⟩⟩
set_option maxRecDepth 100000 in
theorem go_X3_way_21 {nc : Nat} {C : tf_C} {Q : tf_Q} {h : LH} (hn : 270 ≤ nc) {x1 : Nat} {x2 : Int32} {x3 : Int32} (Kx1_0 : tf_K x1 = 0) (q : C 168 [.ref (241), .ref (x1), .int (x3)] h (fun r g => lx_X3_way nc C Q 27 [.ref (241), .ref (x1), .int (x2), .int (x3)] [] g)) : lx_X3_way nc C Q 21 [.ref (241), .ref (x1), .int (x2), .int (x3)] [] h := by
  obtain ⟨Bx1, ⟨Kx1_1, Kx1_2, Kx1_3, Kx1_4, Kx1_5, Kx1_6, Kx1_7, Kx1_8, Kx1_9, Kx1_10, Kx1_11, Kx1_12, Kx1_13, Kx1_14⟩, ⟨Nx1_1, Nx1_2, Nx1_3, Nx1_4, Nx1_5, Nx1_6, Nx1_7, Nx1_8, Nx1_9, Nx1_10, Nx1_12, Nx1_13, Nx1_14⟩⟩ := tn_net Kx1_0
  refine tf_LW_go ?_
  exact ⟨Nat.le_of_ble_eq_true rfl, Nat.le_of_ble_eq_true rfl, q⟩
set_option maxRecDepth 100000 in
theorem go_X3_way_27 {nc : Nat} {C : tf_C} {Q : tf_Q} {h : LH} (hn : 270 ≤ nc) {x1 : Nat} {x2 : Int32} {x3 : Int32} (Kx1_0 : tf_K x1 = 0) (q : Q tf_z h) : lx_X3_way nc C Q 27 [.ref (241), .ref (x1), .int (x2), .int (x3)] [] h := by
  obtain ⟨Bx1, ⟨Kx1_1, Kx1_2, Kx1_3, Kx1_4, Kx1_5, Kx1_6, Kx1_7, Kx1_8, Kx1_9, Kx1_10, Kx1_11, Kx1_12, Kx1_13, Kx1_14⟩, ⟨Nx1_1, Nx1_2, Nx1_3, Nx1_4, Nx1_5, Nx1_6, Nx1_7, Nx1_8, Nx1_9, Nx1_10, Nx1_12, Nx1_13, Nx1_14⟩⟩ := tn_net Kx1_0
  refine tf_LW_go ?_
  exact ⟨(by first | rfl | trivial), q⟩
abbrev lx_X3_cycle (nc : Nat) (C : tf_C) (Q : tf_Q) : tf_X := tf_LW nc C (tf_F 2) (tf_M 2) (tf_I 2) (tf_Eh 158) 0 tb_X3_cycle Q
set_option maxRecDepth 100000 in
theorem go_X3_cycle_0 {nc : Nat} {C : tf_C} {Q : tf_Q} {h : LH} (hn : 270 ≤ nc) {x1 : Nat} {x2 : Int32} (Kx1_0 : tf_K x1 = 0) (q : (vp_in x2 21) ∧ ((h.1 (x1 + 7) (x2 : Int32).toNatClampNeg) = (0 : Int32) → lx_X3_cycle nc C Q 14 [.ref (241), .ref (x1), .int (x2), tf_z, tf_z, tf_z, tf_z] [.int (1)] h) ∧ (¬ (h.1 (x1 + 7) (x2 : Int32).toNatClampNeg) = (0 : Int32) → lx_X3_cycle nc C Q 13 [.ref (241), .ref (x1), .int (x2), tf_z, tf_z, tf_z, tf_z] [] h)) : lx_X3_cycle nc C Q 0 [.ref (241), .ref (x1), .int (x2), tf_z, tf_z, tf_z, tf_z] [] h := by
  obtain ⟨Bx1, ⟨Kx1_1, Kx1_2, Kx1_3, Kx1_4, Kx1_5, Kx1_6, Kx1_7, Kx1_8, Kx1_9, Kx1_10, Kx1_11, Kx1_12, Kx1_13, Kx1_14⟩, ⟨Nx1_1, Nx1_2, Nx1_3, Nx1_4, Nx1_5, Nx1_6, Nx1_7, Nx1_8, Nx1_9, Nx1_10, Nx1_12, Nx1_13, Nx1_14⟩⟩ := tn_net Kx1_0
  refine tf_LW_go ?_
  show (tf_K x1 = 0 ∧ x1 < nc) ∧ (tf_K (tf_R x1 9) = 8 ∧ (tf_R x1 9) < nc ∧ vp_in x2 (tf_N (tf_R x1 9))) ∧ ((h.1 (tf_R x1 9) (x2 : Int32).toNatClampNeg) = (0 : Int32) → lx_X3_cycle nc C Q 14 [.ref (241), .ref (x1), .int (x2), tf_z, tf_z, tf_z, tf_z] [.int (1)] h) ∧ (¬ (h.1 (tf_R x1 9) (x2 : Int32).toNatClampNeg) = (0 : Int32) → lx_X3_cycle nc C Q 13 [.ref (241), .ref (x1), .int (x2), tf_z, tf_z, tf_z, tf_z] [] h)
  try simp only [(show tf_R x1 9 = x1 + 7 by rw [tn_R0 Kx1_0]; try omega), Nx1_7]
  exact ⟨⟨Kx1_0, (show x1 < nc by omega)⟩, ⟨⟨Kx1_7, (show x1 + 7 < nc by omega), q.1⟩, ⟨fun c1 => (q.2.1 c1), q.2.2⟩⟩⟩
theorem en_X3_cycle {nc d : Nat} {Q : tf_Q} {h : LH} (hn : 270 ≤ nc) {x1 : Nat} {x2 : Int32} (Kx1_0 : tf_K x1 = 0) (q : lx_X3_cycle nc (tf_Cd nc d) Q 0 [.ref (241), .ref (x1), .int (x2), tf_z, tf_z, tf_z, tf_z] [] h) : tf_Cd nc (d + 1) 158 [.ref (241), .ref (x1), .int (x2)] h Q := by
  obtain ⟨Bx1, ⟨Kx1_1, Kx1_2, Kx1_3, Kx1_4, Kx1_5, Kx1_6, Kx1_7, Kx1_8, Kx1_9, Kx1_10, Kx1_11, Kx1_12, Kx1_13, Kx1_14⟩, ⟨Nx1_1, Nx1_2, Nx1_3, Nx1_4, Nx1_5, Nx1_6, Nx1_7, Nx1_8, Nx1_9, Nx1_10, Nx1_12, Nx1_13, Nx1_14⟩⟩ := tn_net Kx1_0
  exact ⟨⟨Nat.le_of_ble_eq_true rfl, Or.inr ⟨rfl, (show 241 < nc by omega)⟩⟩, q⟩
set_option maxRecDepth 100000 in
theorem go_X3_cycle_13 {nc : Nat} {C : tf_C} {Q : tf_Q} {h : LH} (hn : 270 ≤ nc) {x1 : Nat} {x2 : Int32} (Kx1_0 : tf_K x1 = 0) (q : lx_X3_cycle nc C Q 14 [.ref (241), .ref (x1), .int (x2), tf_z, tf_z, tf_z, tf_z] [.int (0)] h) : lx_X3_cycle nc C Q 13 [.ref (241), .ref (x1), .int (x2), tf_z, tf_z, tf_z, tf_z] [] h := by
  obtain ⟨Bx1, ⟨Kx1_1, Kx1_2, Kx1_3, Kx1_4, Kx1_5, Kx1_6, Kx1_7, Kx1_8, Kx1_9, Kx1_10, Kx1_11, Kx1_12, Kx1_13, Kx1_14⟩, ⟨Nx1_1, Nx1_2, Nx1_3, Nx1_4, Nx1_5, Nx1_6, Nx1_7, Nx1_8, Nx1_9, Nx1_10, Nx1_12, Nx1_13, Nx1_14⟩⟩ := tn_net Kx1_0
  refine tf_LW_go ?_
  exact q
set_option maxRecDepth 100000 in
theorem go_X3_cycle_14 {nc : Nat} {C : tf_C} {Q : tf_Q} {h : LH} (hn : 270 ≤ nc) {x1 : Nat} {x2 : Int32} {y0 : Int32} (Kx1_0 : tf_K x1 = 0) (q : (y0 = (0 : Int32) → lx_X3_cycle nc C Q 28 [.ref (241), .ref (x1), .int (x2), .int (y0), tf_z, tf_z, tf_z] [] h) ∧ (¬ y0 = (0 : Int32) → (vp_in x2 21) ∧ lx_X3_cycle nc C Q 34 [.ref (241), .ref (x1), .int (x2), .int (y0), tf_z, tf_z, tf_z] [.int (h.1 (x1 + 2) (x2 : Int32).toNatClampNeg)] h)) : lx_X3_cycle nc C Q 14 [.ref (241), .ref (x1), .int (x2), tf_z, tf_z, tf_z, tf_z] [.int (y0)] h := by
  obtain ⟨Bx1, ⟨Kx1_1, Kx1_2, Kx1_3, Kx1_4, Kx1_5, Kx1_6, Kx1_7, Kx1_8, Kx1_9, Kx1_10, Kx1_11, Kx1_12, Kx1_13, Kx1_14⟩, ⟨Nx1_1, Nx1_2, Nx1_3, Nx1_4, Nx1_5, Nx1_6, Nx1_7, Nx1_8, Nx1_9, Nx1_10, Nx1_12, Nx1_13, Nx1_14⟩⟩ := tn_net Kx1_0
  refine tf_LW_go ?_
  show (y0 = (0 : Int32) → lx_X3_cycle nc C Q 28 [.ref (241), .ref (x1), .int (x2), .int (y0), tf_z, tf_z, tf_z] [] h) ∧ (¬ y0 = (0 : Int32) → (tf_K x1 = 0 ∧ x1 < nc) ∧ (tf_K (tf_R x1 4) = 8 ∧ (tf_R x1 4) < nc ∧ vp_in x2 (tf_N (tf_R x1 4))) ∧ lx_X3_cycle nc C Q 34 [.ref (241), .ref (x1), .int (x2), .int (y0), tf_z, tf_z, tf_z] [.int (h.1 (tf_R x1 4) (x2 : Int32).toNatClampNeg)] h)
  try simp only [(show tf_R x1 4 = x1 + 2 by rw [tn_R0 Kx1_0]; try omega), Nx1_2]
  exact ⟨q.1, fun c1 => ⟨⟨Kx1_0, (show x1 < nc by omega)⟩, ⟨⟨Kx1_2, (show x1 + 2 < nc by omega), (q.2 c1).1⟩, (q.2 c1).2⟩⟩⟩
set_option maxRecDepth 100000 in
theorem go_X3_cycle_28 {nc : Nat} {C : tf_C} {Q : tf_Q} {h : LH} (hn : 270 ≤ nc) {x1 : Nat} {x2 : Int32} {x3 : Int32} (Kx1_0 : tf_K x1 = 0) (q : (vp_in x2 21) ∧ lx_X3_cycle nc C Q 34 [.ref (241), .ref (x1), .int (x2), .int (x3), tf_z, tf_z, tf_z] [.int (h.1 (x1 + 3) (x2 : Int32).toNatClampNeg)] h) : lx_X3_cycle nc C Q 28 [.ref (241), .ref (x1), .int (x2), .int (x3), tf_z, tf_z, tf_z] [] h := by
  obtain ⟨Bx1, ⟨Kx1_1, Kx1_2, Kx1_3, Kx1_4, Kx1_5, Kx1_6, Kx1_7, Kx1_8, Kx1_9, Kx1_10, Kx1_11, Kx1_12, Kx1_13, Kx1_14⟩, ⟨Nx1_1, Nx1_2, Nx1_3, Nx1_4, Nx1_5, Nx1_6, Nx1_7, Nx1_8, Nx1_9, Nx1_10, Nx1_12, Nx1_13, Nx1_14⟩⟩ := tn_net Kx1_0
  refine tf_LW_go ?_
  show (tf_K x1 = 0 ∧ x1 < nc) ∧ (tf_K (tf_R x1 5) = 8 ∧ (tf_R x1 5) < nc ∧ vp_in x2 (tf_N (tf_R x1 5))) ∧ lx_X3_cycle nc C Q 34 [.ref (241), .ref (x1), .int (x2), .int (x3), tf_z, tf_z, tf_z] [.int (h.1 (tf_R x1 5) (x2 : Int32).toNatClampNeg)] h
  try simp only [(show tf_R x1 5 = x1 + 3 by rw [tn_R0 Kx1_0]; try omega), Nx1_3]
  exact ⟨⟨Kx1_0, (show x1 < nc by omega)⟩, ⟨⟨Kx1_3, (show x1 + 3 < nc by omega), q.1⟩, q.2⟩⟩
set_option maxRecDepth 100000 in
theorem go_X3_cycle_34 {nc : Nat} {C : tf_C} {Q : tf_Q} {h : LH} (hn : 270 ≤ nc) {x1 : Nat} {x2 : Int32} {x3 : Int32} {y0 : Int32} (Kx1_0 : tf_K x1 = 0) (q : (x3 = (0 : Int32) → lx_X3_cycle nc C Q 49 [.ref (241), .ref (x1), .int (x2), .int (x3), .int (y0), tf_z, tf_z] [] h) ∧ (¬ x3 = (0 : Int32) → (vp_in x2 21) ∧ lx_X3_cycle nc C Q 55 [.ref (241), .ref (x1), .int (x2), .int (x3), .int (y0), tf_z, tf_z] [.int (h.1 (x1 + 3) (x2 : Int32).toNatClampNeg)] h)) : lx_X3_cycle nc C Q 34 [.ref (241), .ref (x1), .int (x2), .int (x3), tf_z, tf_z, tf_z] [.int (y0)] h := by
  obtain ⟨Bx1, ⟨Kx1_1, Kx1_2, Kx1_3, Kx1_4, Kx1_5, Kx1_6, Kx1_7, Kx1_8, Kx1_9, Kx1_10, Kx1_11, Kx1_12, Kx1_13, Kx1_14⟩, ⟨Nx1_1, Nx1_2, Nx1_3, Nx1_4, Nx1_5, Nx1_6, Nx1_7, Nx1_8, Nx1_9, Nx1_10, Nx1_12, Nx1_13, Nx1_14⟩⟩ := tn_net Kx1_0
  refine tf_LW_go ?_
  show (x3 = (0 : Int32) → lx_X3_cycle nc C Q 49 [.ref (241), .ref (x1), .int (x2), .int (x3), .int (y0), tf_z, tf_z] [] h) ∧ (¬ x3 = (0 : Int32) → (tf_K x1 = 0 ∧ x1 < nc) ∧ (tf_K (tf_R x1 5) = 8 ∧ (tf_R x1 5) < nc ∧ vp_in x2 (tf_N (tf_R x1 5))) ∧ lx_X3_cycle nc C Q 55 [.ref (241), .ref (x1), .int (x2), .int (x3), .int (y0), tf_z, tf_z] [.int (h.1 (tf_R x1 5) (x2 : Int32).toNatClampNeg)] h)
  try simp only [(show tf_R x1 5 = x1 + 3 by rw [tn_R0 Kx1_0]; try omega), Nx1_3]
  exact ⟨q.1, fun c1 => ⟨⟨Kx1_0, (show x1 < nc by omega)⟩, ⟨⟨Kx1_3, (show x1 + 3 < nc by omega), (q.2 c1).1⟩, (q.2 c1).2⟩⟩⟩
set_option maxRecDepth 100000 in
theorem go_X3_cycle_49 {nc : Nat} {C : tf_C} {Q : tf_Q} {h : LH} (hn : 270 ≤ nc) {x1 : Nat} {x2 : Int32} {x3 : Int32} {x4 : Int32} (Kx1_0 : tf_K x1 = 0) (q : (vp_in x2 21) ∧ lx_X3_cycle nc C Q 55 [.ref (241), .ref (x1), .int (x2), .int (x3), .int (x4), tf_z, tf_z] [.int (h.1 (x1 + 2) (x2 : Int32).toNatClampNeg)] h) : lx_X3_cycle nc C Q 49 [.ref (241), .ref (x1), .int (x2), .int (x3), .int (x4), tf_z, tf_z] [] h := by
  obtain ⟨Bx1, ⟨Kx1_1, Kx1_2, Kx1_3, Kx1_4, Kx1_5, Kx1_6, Kx1_7, Kx1_8, Kx1_9, Kx1_10, Kx1_11, Kx1_12, Kx1_13, Kx1_14⟩, ⟨Nx1_1, Nx1_2, Nx1_3, Nx1_4, Nx1_5, Nx1_6, Nx1_7, Nx1_8, Nx1_9, Nx1_10, Nx1_12, Nx1_13, Nx1_14⟩⟩ := tn_net Kx1_0
  refine tf_LW_go ?_
  show (tf_K x1 = 0 ∧ x1 < nc) ∧ (tf_K (tf_R x1 4) = 8 ∧ (tf_R x1 4) < nc ∧ vp_in x2 (tf_N (tf_R x1 4))) ∧ lx_X3_cycle nc C Q 55 [.ref (241), .ref (x1), .int (x2), .int (x3), .int (x4), tf_z, tf_z] [.int (h.1 (tf_R x1 4) (x2 : Int32).toNatClampNeg)] h
  try simp only [(show tf_R x1 4 = x1 + 2 by rw [tn_R0 Kx1_0]; try omega), Nx1_2]
  exact ⟨⟨Kx1_0, (show x1 < nc by omega)⟩, ⟨⟨Kx1_2, (show x1 + 2 < nc by omega), q.1⟩, q.2⟩⟩
set_option maxRecDepth 100000 in
theorem go_X3_cycle_55 {nc : Nat} {C : tf_C} {Q : tf_Q} {h : LH} (hn : 270 ≤ nc) {x1 : Nat} {x2 : Int32} {x3 : Int32} {x4 : Int32} {y0 : Int32} (Kx1_0 : tf_K x1 = 0) (q : C 166 [.ref (x1), .int (x4), .int (y0)] (tf_up h.1 241 2 0, h.2) (fun r g => lx_X3_cycle nc C Q 71 [.ref (241), .ref (x1), .int (x2), .int (x3), .int (x4), .int (y0), tf_z] (r :: [.ref (241)]) g)) : lx_X3_cycle nc C Q 55 [.ref (241), .ref (x1), .int (x2), .int (x3), .int (x4), tf_z, tf_z] [.int (y0)] h := by
  obtain ⟨Bx1, ⟨Kx1_1, Kx1_2, Kx1_3, Kx1_4, Kx1_5, Kx1_6, Kx1_7, Kx1_8, Kx1_9, Kx1_10, Kx1_11, Kx1_12, Kx1_13, Kx1_14⟩, ⟨Nx1_1, Nx1_2, Nx1_3, Nx1_4, Nx1_5, Nx1_6, Nx1_7, Nx1_8, Nx1_9, Nx1_10, Nx1_12, Nx1_13, Nx1_14⟩⟩ := tn_net Kx1_0
  refine tf_LW_go ?_
  exact ⟨⟨(by first | rfl | trivial), (show 241 < nc by omega), (by first | rfl | trivial)⟩, ⟨Nat.le_of_ble_eq_true rfl, Nat.le_of_ble_eq_true rfl, q⟩⟩
set_option maxRecDepth 100000 in
theorem go_X3_cycle_71 {nc : Nat} {C : tf_C} {Q : tf_Q} {h : LH} (hn : 270 ≤ nc) {x1 : Nat} {x2 : Int32} {x3 : Int32} {x4 : Int32} {x5 : Int32} {y1 : Int32} (Kx1_0 : tf_K x1 = 0) (q : C 168 [.ref (241), .ref (x1), .int (x4)] (tf_up h.1 241 3 y1, h.2) (fun r g => lx_X3_cycle nc C Q 81 [.ref (241), .ref (x1), .int (x2), .int (x3), .int (x4), .int (x5), tf_z] [] g)) : lx_X3_cycle nc C Q 71 [.ref (241), .ref (x1), .int (x2), .int (x3), .int (x4), .int (x5), tf_z] [.int (y1), .ref (241)] h := by
  obtain ⟨Bx1, ⟨Kx1_1, Kx1_2, Kx1_3, Kx1_4, Kx1_5, Kx1_6, Kx1_7, Kx1_8, Kx1_9, Kx1_10, Kx1_11, Kx1_12, Kx1_13, Kx1_14⟩, ⟨Nx1_1, Nx1_2, Nx1_3, Nx1_4, Nx1_5, Nx1_6, Nx1_7, Nx1_8, Nx1_9, Nx1_10, Nx1_12, Nx1_13, Nx1_14⟩⟩ := tn_net Kx1_0
  refine tf_LW_go ?_
  exact ⟨⟨(by first | rfl | trivial), (show 241 < nc by omega), (by first | rfl | trivial)⟩, ⟨Nat.le_of_ble_eq_true rfl, Nat.le_of_ble_eq_true rfl, q⟩⟩
set_option maxRecDepth 100000 in
theorem go_X3_cycle_81 {nc : Nat} {C : tf_C} {Q : tf_Q} {h : LH} (hn : 270 ≤ nc) {x1 : Nat} {x2 : Int32} {x3 : Int32} {x4 : Int32} {x5 : Int32} (Kx1_0 : tf_K x1 = 0) (q : C 169 [.ref (241), .int (x2), .int (x3)] (tf_up h.1 241 5 (h.1 241 2), h.2) (fun r g => lx_X3_cycle nc C Q 95 [.ref (241), .ref (x1), .int (x2), .int (x3), .int (x4), .int (x5), tf_z] [] g)) : lx_X3_cycle nc C Q 81 [.ref (241), .ref (x1), .int (x2), .int (x3), .int (x4), .int (x5), tf_z] [] h := by
  obtain ⟨Bx1, ⟨Kx1_1, Kx1_2, Kx1_3, Kx1_4, Kx1_5, Kx1_6, Kx1_7, Kx1_8, Kx1_9, Kx1_10, Kx1_11, Kx1_12, Kx1_13, Kx1_14⟩, ⟨Nx1_1, Nx1_2, Nx1_3, Nx1_4, Nx1_5, Nx1_6, Nx1_7, Nx1_8, Nx1_9, Nx1_10, Nx1_12, Nx1_13, Nx1_14⟩⟩ := tn_net Kx1_0
  refine tf_LW_go ?_
  exact ⟨⟨(by first | rfl | trivial), (show 241 < nc by omega)⟩, ⟨⟨(by first | rfl | trivial), (show 241 < nc by omega), (by first | rfl | trivial)⟩, ⟨Nat.le_of_ble_eq_true rfl, Nat.le_of_ble_eq_true rfl, q⟩⟩⟩
set_option maxRecDepth 100000 in
theorem go_X3_cycle_95 {nc : Nat} {C : tf_C} {Q : tf_Q} {h : LH} (hn : 270 ≤ nc) {x1 : Nat} {x2 : Int32} {x3 : Int32} {x4 : Int32} {x5 : Int32} (Kx1_0 : tf_K x1 = 0) (q : C 167 [.ref (241), .ref (x1), .int (x5)] h (fun r g => lx_X3_cycle nc C Q 102 [.ref (241), .ref (x1), .int (x2), .int (x3), .int (x4), .int (x5), tf_z] [] g)) : lx_X3_cycle nc C Q 95 [.ref (241), .ref (x1), .int (x2), .int (x3), .int (x4), .int (x5), tf_z] [] h := by
  obtain ⟨Bx1, ⟨Kx1_1, Kx1_2, Kx1_3, Kx1_4, Kx1_5, Kx1_6, Kx1_7, Kx1_8, Kx1_9, Kx1_10, Kx1_11, Kx1_12, Kx1_13, Kx1_14⟩, ⟨Nx1_1, Nx1_2, Nx1_3, Nx1_4, Nx1_5, Nx1_6, Nx1_7, Nx1_8, Nx1_9, Nx1_10, Nx1_12, Nx1_13, Nx1_14⟩⟩ := tn_net Kx1_0
  refine tf_LW_go ?_
  exact ⟨Nat.le_of_ble_eq_true rfl, Nat.le_of_ble_eq_true rfl, q⟩
set_option maxRecDepth 100000 in
theorem go_X3_cycle_102 {nc : Nat} {C : tf_C} {Q : tf_Q} {h : LH} (hn : 270 ≤ nc) {x1 : Nat} {x2 : Int32} {x3 : Int32} {x4 : Int32} {x5 : Int32} (Kx1_0 : tf_K x1 = 0) (q : C 162 [.ref (241), .ref (x1)] h (fun r g => lx_X3_cycle nc C Q 108 [.ref (241), .ref (x1), .int (x2), .int (x3), .int (x4), .int (x5), tf_z] (r :: [.ref (241)]) g)) : lx_X3_cycle nc C Q 102 [.ref (241), .ref (x1), .int (x2), .int (x3), .int (x4), .int (x5), tf_z] [] h := by
  obtain ⟨Bx1, ⟨Kx1_1, Kx1_2, Kx1_3, Kx1_4, Kx1_5, Kx1_6, Kx1_7, Kx1_8, Kx1_9, Kx1_10, Kx1_11, Kx1_12, Kx1_13, Kx1_14⟩, ⟨Nx1_1, Nx1_2, Nx1_3, Nx1_4, Nx1_5, Nx1_6, Nx1_7, Nx1_8, Nx1_9, Nx1_10, Nx1_12, Nx1_13, Nx1_14⟩⟩ := tn_net Kx1_0
  refine tf_LW_go ?_
  exact ⟨Nat.le_of_ble_eq_true rfl, Nat.le_of_ble_eq_true rfl, q⟩
set_option maxRecDepth 100000 in
theorem go_X3_cycle_108 {nc : Nat} {C : tf_C} {Q : tf_Q} {h : LH} (hn : 270 ≤ nc) {x1 : Nat} {x2 : Int32} {x3 : Int32} {x4 : Int32} {x5 : Int32} {y1 : Int32} (Kx1_0 : tf_K x1 = 0) (q : lx_X3_cycle nc C Q 122 [.ref (241), .ref (x1), .int (x2), .int (x3), .int (x4), .int (x5), .int (0)] [] (tf_up (tf_up h.1 241 4 y1) 241 6 ((tf_up h.1 241 4 y1) 241 5), h.2)) : lx_X3_cycle nc C Q 108 [.ref (241), .ref (x1), .int (x2), .int (x3), .int (x4), .int (x5), tf_z] [.int (y1), .ref (241)] h := by
  obtain ⟨Bx1, ⟨Kx1_1, Kx1_2, Kx1_3, Kx1_4, Kx1_5, Kx1_6, Kx1_7, Kx1_8, Kx1_9, Kx1_10, Kx1_11, Kx1_12, Kx1_13, Kx1_14⟩, ⟨Nx1_1, Nx1_2, Nx1_3, Nx1_4, Nx1_5, Nx1_6, Nx1_7, Nx1_8, Nx1_9, Nx1_10, Nx1_12, Nx1_13, Nx1_14⟩⟩ := tn_net Kx1_0
  refine tf_LW_go ?_
  exact ⟨⟨(by first | rfl | trivial), (show 241 < nc by omega), (by first | rfl | trivial)⟩, ⟨⟨(by first | rfl | trivial), (show 241 < nc by omega)⟩, ⟨⟨(by first | rfl | trivial), (show 241 < nc by omega), (by first | rfl | trivial)⟩, q⟩⟩⟩
set_option maxRecDepth 100000 in
theorem go_X3_cycle_122 {nc : Nat} {C : tf_C} {Q : tf_Q} {h : LH} (hn : 270 ≤ nc) {x1 : Nat} {x2 : Int32} {x3 : Int32} {x4 : Int32} {x5 : Int32} {x6 : Int32} (Kx1_0 : tf_K x1 = 0) (q : ((h.1 241 2) ≤ x6 → lx_X3_cycle nc C Q 168 [.ref (241), .ref (x1), .int (x2), .int (x3), .int (x4), .int (x5), .int (x6)] [] h) ∧ (¬ (h.1 241 2) ≤ x6 → (vp_in x6 8) ∧ (vp_in x6 8) ∧ C 136 [.ref (x1), .int (h.1 242 (x6 : Int32).toNatClampNeg), .int (h.1 243 (x6 : Int32).toNatClampNeg)] h (fun r g => lx_X3_cycle nc C Q 149 [.ref (241), .ref (x1), .int (x2), .int (x3), .int (x4), .int (x5), .int (x6)] (r :: []) g))) : lx_X3_cycle nc C Q 122 [.ref (241), .ref (x1), .int (x2), .int (x3), .int (x4), .int (x5), .int (x6)] [] h := by
  obtain ⟨Bx1, ⟨Kx1_1, Kx1_2, Kx1_3, Kx1_4, Kx1_5, Kx1_6, Kx1_7, Kx1_8, Kx1_9, Kx1_10, Kx1_11, Kx1_12, Kx1_13, Kx1_14⟩, ⟨Nx1_1, Nx1_2, Nx1_3, Nx1_4, Nx1_5, Nx1_6, Nx1_7, Nx1_8, Nx1_9, Nx1_10, Nx1_12, Nx1_13, Nx1_14⟩⟩ := tn_net Kx1_0
  refine tf_LW_go ?_
  exact ⟨⟨(by first | rfl | trivial), (show 241 < nc by omega)⟩, ⟨q.1, fun c1 => ⟨⟨(by first | rfl | trivial), (show 241 < nc by omega)⟩, ⟨⟨(by first | rfl | trivial), (show 242 < nc by omega), (q.2 c1).1⟩, ⟨⟨(by first | rfl | trivial), (show 241 < nc by omega)⟩, ⟨⟨(Or.inr (by first | rfl | trivial)), (show 243 < nc by omega), (q.2 c1).2.1⟩, ⟨Nat.le_of_ble_eq_true rfl, Nat.le_of_ble_eq_true rfl, (q.2 c1).2.2⟩⟩⟩⟩⟩⟩⟩
set_option maxRecDepth 100000 in
theorem go_X3_cycle_149 {nc : Nat} {C : tf_C} {Q : tf_Q} {h : LH} (hn : 270 ≤ nc) {x1 : Nat} {x2 : Int32} {x3 : Int32} {x4 : Int32} {x5 : Int32} {x6 : Int32} {y0 : Int32} (Kx1_0 : tf_K x1 = 0) (q : (y0 = (h.1 241 4) → lx_X3_cycle nc C Q 162 [.ref (241), .ref (x1), .int (x2), .int (x3), .int (x4), .int (x5), .int (x6)] [] (tf_up h.1 241 6 x6, h.2)) ∧ (¬ y0 = (h.1 241 4) → lx_X3_cycle nc C Q 162 [.ref (241), .ref (x1), .int (x2), .int (x3), .int (x4), .int (x5), .int (x6)] [] h)) : lx_X3_cycle nc C Q 149 [.ref (241), .ref (x1), .int (x2), .int (x3), .int (x4), .int (x5), .int (x6)] [.int (y0)] h := by
  obtain ⟨Bx1, ⟨Kx1_1, Kx1_2, Kx1_3, Kx1_4, Kx1_5, Kx1_6, Kx1_7, Kx1_8, Kx1_9, Kx1_10, Kx1_11, Kx1_12, Kx1_13, Kx1_14⟩, ⟨Nx1_1, Nx1_2, Nx1_3, Nx1_4, Nx1_5, Nx1_6, Nx1_7, Nx1_8, Nx1_9, Nx1_10, Nx1_12, Nx1_13, Nx1_14⟩⟩ := tn_net Kx1_0
  refine tf_LW_go ?_
  exact ⟨⟨(by first | rfl | trivial), (show 241 < nc by omega)⟩, ⟨fun c1 => ⟨⟨(by first | rfl | trivial), (show 241 < nc by omega), (by first | rfl | trivial)⟩, (q.1 c1)⟩, q.2⟩⟩
set_option maxRecDepth 100000 in
theorem go_X3_cycle_162 {nc : Nat} {C : tf_C} {Q : tf_Q} {h : LH} (hn : 270 ≤ nc) {x1 : Nat} {x2 : Int32} {x3 : Int32} {x4 : Int32} {x5 : Int32} {x6 : Int32} (Kx1_0 : tf_K x1 = 0) (q : lx_X3_cycle nc C Q 122 [.ref (241), .ref (x1), .int (x2), .int (x3), .int (x4), .int (x5), .int (x6 + 1)] [] h) : lx_X3_cycle nc C Q 162 [.ref (241), .ref (x1), .int (x2), .int (x3), .int (x4), .int (x5), .int (x6)] [] h := by
  obtain ⟨Bx1, ⟨Kx1_1, Kx1_2, Kx1_3, Kx1_4, Kx1_5, Kx1_6, Kx1_7, Kx1_8, Kx1_9, Kx1_10, Kx1_11, Kx1_12, Kx1_13, Kx1_14⟩, ⟨Nx1_1, Nx1_2, Nx1_3, Nx1_4, Nx1_5, Nx1_6, Nx1_7, Nx1_8, Nx1_9, Nx1_10, Nx1_12, Nx1_13, Nx1_14⟩⟩ := tn_net Kx1_0
  refine tf_LW_go ?_
  exact q
set_option maxRecDepth 100000 in
theorem go_X3_cycle_168 {nc : Nat} {C : tf_C} {Q : tf_Q} {h : LH} (hn : 270 ≤ nc) {x1 : Nat} {x2 : Int32} {x3 : Int32} {x4 : Int32} {x5 : Int32} {x6 : Int32} (Kx1_0 : tf_K x1 = 0) (q : Q tf_z h) : lx_X3_cycle nc C Q 168 [.ref (241), .ref (x1), .int (x2), .int (x3), .int (x4), .int (x5), .int (x6)] [] h := by
  obtain ⟨Bx1, ⟨Kx1_1, Kx1_2, Kx1_3, Kx1_4, Kx1_5, Kx1_6, Kx1_7, Kx1_8, Kx1_9, Kx1_10, Kx1_11, Kx1_12, Kx1_13, Kx1_14⟩, ⟨Nx1_1, Nx1_2, Nx1_3, Nx1_4, Nx1_5, Nx1_6, Nx1_7, Nx1_8, Nx1_9, Nx1_10, Nx1_12, Nx1_13, Nx1_14⟩⟩ := tn_net Kx1_0
  refine tf_LW_go ?_
  exact ⟨(by first | rfl | trivial), q⟩
abbrev lx_X3_step (nc : Nat) (C : tf_C) (Q : tf_Q) : tf_X := tf_LW nc C (tf_F 2) (tf_M 2) (tf_I 2) (tf_Eh 159) 1 tb_X3_step Q
set_option maxRecDepth 100000 in
theorem go_X3_step_0 {nc : Nat} {C : tf_C} {Q : tf_Q} {h : LH} (hn : 270 ≤ nc) {x1 : Nat} {x2 : Int32} (Kx1_0 : tf_K x1 = 0) (q : C 135 [.ref (x1), .int (x2)] h (fun r g => lx_X3_step nc C Q 5 [.ref (241), .ref (x1), .int (x2), tf_z, tf_z] (r :: []) g)) : lx_X3_step nc C Q 0 [.ref (241), .ref (x1), .int (x2), tf_z, tf_z] [] h := by
  obtain ⟨Bx1, ⟨Kx1_1, Kx1_2, Kx1_3, Kx1_4, Kx1_5, Kx1_6, Kx1_7, Kx1_8, Kx1_9, Kx1_10, Kx1_11, Kx1_12, Kx1_13, Kx1_14⟩, ⟨Nx1_1, Nx1_2, Nx1_3, Nx1_4, Nx1_5, Nx1_6, Nx1_7, Nx1_8, Nx1_9, Nx1_10, Nx1_12, Nx1_13, Nx1_14⟩⟩ := tn_net Kx1_0
  refine tf_LW_go ?_
  exact ⟨Nat.le_of_ble_eq_true rfl, Nat.le_of_ble_eq_true rfl, q⟩
theorem en_X3_step {nc d : Nat} {Q : tf_Q} {h : LH} (hn : 270 ≤ nc) {x1 : Nat} {x2 : Int32} (Kx1_0 : tf_K x1 = 0) (q : lx_X3_step nc (tf_Cd nc d) Q 0 [.ref (241), .ref (x1), .int (x2), tf_z, tf_z] [] h) : tf_Cd nc (d + 1) 159 [.ref (241), .ref (x1), .int (x2)] h Q := by
  obtain ⟨Bx1, ⟨Kx1_1, Kx1_2, Kx1_3, Kx1_4, Kx1_5, Kx1_6, Kx1_7, Kx1_8, Kx1_9, Kx1_10, Kx1_11, Kx1_12, Kx1_13, Kx1_14⟩, ⟨Nx1_1, Nx1_2, Nx1_3, Nx1_4, Nx1_5, Nx1_6, Nx1_7, Nx1_8, Nx1_9, Nx1_10, Nx1_12, Nx1_13, Nx1_14⟩⟩ := tn_net Kx1_0
  exact ⟨⟨Nat.le_of_ble_eq_true rfl, Or.inr ⟨rfl, (show 241 < nc by omega)⟩⟩, q⟩
set_option maxRecDepth 100000 in
theorem go_X3_step_5 {nc : Nat} {C : tf_C} {Q : tf_Q} {h : LH} (hn : 270 ≤ nc) {x1 : Nat} {x2 : Int32} {y0 : Int32} (Kx1_0 : tf_K x1 = 0) (q : (y0 = ((-1) : Int32) → Q (.int ((-1))) h) ∧ (¬ y0 = ((-1) : Int32) → lx_X3_step nc C Q 13 [.ref (241), .ref (x1), .int (x2), .int (y0), tf_z] [] h)) : lx_X3_step nc C Q 5 [.ref (241), .ref (x1), .int (x2), tf_z, tf_z] [.int (y0)] h := by
  obtain ⟨Bx1, ⟨Kx1_1, Kx1_2, Kx1_3, Kx1_4, Kx1_5, Kx1_6, Kx1_7, Kx1_8, Kx1_9, Kx1_10, Kx1_11, Kx1_12, Kx1_13, Kx1_14⟩, ⟨Nx1_1, Nx1_2, Nx1_3, Nx1_4, Nx1_5, Nx1_6, Nx1_7, Nx1_8, Nx1_9, Nx1_10, Nx1_12, Nx1_13, Nx1_14⟩⟩ := tn_net Kx1_0
  refine tf_LW_go ?_
  exact ⟨fun c1 => ⟨(by first | trivial | rfl), (q.1 c1)⟩, q.2⟩
set_option maxRecDepth 100000 in
theorem go_X3_step_13 {nc : Nat} {C : tf_C} {Q : tf_Q} {h : LH} (hn : 270 ≤ nc) {x1 : Nat} {x2 : Int32} {x3 : Int32} (Kx1_0 : tf_K x1 = 0) (q : C 158 [.ref (241), .ref (x1), .int (x3)] h (fun r g => lx_X3_step nc C Q 19 [.ref (241), .ref (x1), .int (x2), .int (x3), tf_z] [] g)) : lx_X3_step nc C Q 13 [.ref (241), .ref (x1), .int (x2), .int (x3), tf_z] [] h := by
  obtain ⟨Bx1, ⟨Kx1_1, Kx1_2, Kx1_3, Kx1_4, Kx1_5, Kx1_6, Kx1_7, Kx1_8, Kx1_9, Kx1_10, Kx1_11, Kx1_12, Kx1_13, Kx1_14⟩, ⟨Nx1_1, Nx1_2, Nx1_3, Nx1_4, Nx1_5, Nx1_6, Nx1_7, Nx1_8, Nx1_9, Nx1_10, Nx1_12, Nx1_13, Nx1_14⟩⟩ := tn_net Kx1_0
  refine tf_LW_go ?_
  exact ⟨Nat.le_of_ble_eq_true rfl, Nat.le_of_ble_eq_true rfl, q⟩
set_option maxRecDepth 100000 in
theorem go_X3_step_19 {nc : Nat} {C : tf_C} {Q : tf_Q} {h : LH} (hn : 270 ≤ nc) {x1 : Nat} {x2 : Int32} {x3 : Int32} (Kx1_0 : tf_K x1 = 0) (q : lx_X3_step nc C Q 22 [.ref (241), .ref (x1), .int (x2), .int (x3), .int (0)] [] h) : lx_X3_step nc C Q 19 [.ref (241), .ref (x1), .int (x2), .int (x3), tf_z] [] h := by
  obtain ⟨Bx1, ⟨Kx1_1, Kx1_2, Kx1_3, Kx1_4, Kx1_5, Kx1_6, Kx1_7, Kx1_8, Kx1_9, Kx1_10, Kx1_11, Kx1_12, Kx1_13, Kx1_14⟩, ⟨Nx1_1, Nx1_2, Nx1_3, Nx1_4, Nx1_5, Nx1_6, Nx1_7, Nx1_8, Nx1_9, Nx1_10, Nx1_12, Nx1_13, Nx1_14⟩⟩ := tn_net Kx1_0
  refine tf_LW_go ?_
  exact q
set_option maxRecDepth 100000 in
theorem go_X3_step_22 {nc : Nat} {C : tf_C} {Q : tf_Q} {h : LH} (hn : 270 ≤ nc) {x1 : Nat} {x2 : Int32} {x3 : Int32} {x4 : Int32} (Kx1_0 : tf_K x1 = 0) (q : ((h.1 241 2) ≤ x4 → lx_X3_step nc C Q 74 [.ref (241), .ref (x1), .int (x2), .int (x3), .int (x4)] [] h) ∧ (¬ (h.1 241 2) ≤ x4 → (vp_in x4 8) ∧ (vp_in (h.1 242 (x4 : Int32).toNatClampNeg) 21) ∧ (vp_in x4 8) ∧ ((h.1 243 (x4 : Int32).toNatClampNeg) = (0 : Int32) → lx_X3_step nc C Q 61 [.ref (241), .ref (x1), .int (x2), .int (x3), .int (x4)] [.int (h.1 (x1 + 6) (h.1 242 (x4 : Int32).toNatClampNeg : Int32).toNatClampNeg), .int (h.1 242 (x4 : Int32).toNatClampNeg), .ref (x1 + 6)] h) ∧ (¬ (h.1 243 (x4 : Int32).toNatClampNeg) = (0 : Int32) → lx_X3_step nc C Q 66 [.ref (241), .ref (x1), .int (x2), .int (x3), .int (x4)] [.int (h.1 241 4), .int (h.1 (x1 + 6) (h.1 242 (x4 : Int32).toNatClampNeg : Int32).toNatClampNeg), .int (h.1 242 (x4 : Int32).toNatClampNeg), .ref (x1 + 6)] h))) : lx_X3_step nc C Q 22 [.ref (241), .ref (x1), .int (x2), .int (x3), .int (x4)] [] h := by
  obtain ⟨Bx1, ⟨Kx1_1, Kx1_2, Kx1_3, Kx1_4, Kx1_5, Kx1_6, Kx1_7, Kx1_8, Kx1_9, Kx1_10, Kx1_11, Kx1_12, Kx1_13, Kx1_14⟩, ⟨Nx1_1, Nx1_2, Nx1_3, Nx1_4, Nx1_5, Nx1_6, Nx1_7, Nx1_8, Nx1_9, Nx1_10, Nx1_12, Nx1_13, Nx1_14⟩⟩ := tn_net Kx1_0
  refine tf_LW_go ?_
  show (tf_K 241 = 2 ∧ 241 < nc) ∧ ((h.1 241 2) ≤ x4 → lx_X3_step nc C Q 74 [.ref (241), .ref (x1), .int (x2), .int (x3), .int (x4)] [] h) ∧ (¬ (h.1 241 2) ≤ x4 → (tf_K x1 = 0 ∧ x1 < nc) ∧ (tf_K 241 = 2 ∧ 241 < nc) ∧ (tf_K 242 = 8 ∧ 242 < nc ∧ vp_in x4 8) ∧ (tf_K (tf_R x1 8) = 8 ∧ (tf_R x1 8) < nc ∧ vp_in (h.1 242 (x4 : Int32).toNatClampNeg) (tf_N (tf_R x1 8))) ∧ (tf_K 241 = 2 ∧ 241 < nc) ∧ ((tf_K 243 = 10 ∨ tf_K 243 = 11) ∧ 243 < nc ∧ vp_in x4 8) ∧ ((h.1 243 (x4 : Int32).toNatClampNeg) = (0 : Int32) → lx_X3_step nc C Q 61 [.ref (241), .ref (x1), .int (x2), .int (x3), .int (x4)] [.int (h.1 (tf_R x1 8) (h.1 242 (x4 : Int32).toNatClampNeg : Int32).toNatClampNeg), .int (h.1 242 (x4 : Int32).toNatClampNeg), .ref (tf_R x1 8)] h) ∧ (¬ (h.1 243 (x4 : Int32).toNatClampNeg) = (0 : Int32) → (tf_K 241 = 2 ∧ 241 < nc) ∧ lx_X3_step nc C Q 66 [.ref (241), .ref (x1), .int (x2), .int (x3), .int (x4)] [.int (h.1 241 4), .int (h.1 (tf_R x1 8) (h.1 242 (x4 : Int32).toNatClampNeg : Int32).toNatClampNeg), .int (h.1 242 (x4 : Int32).toNatClampNeg), .ref (tf_R x1 8)] h))
  try simp only [(show tf_R x1 8 = x1 + 6 by rw [tn_R0 Kx1_0]; try omega), Nx1_6]
  exact ⟨⟨(by first | rfl | trivial), (show 241 < nc by omega)⟩, ⟨q.1, fun c2 => ⟨⟨Kx1_0, (show x1 < nc by omega)⟩, ⟨⟨(by first | rfl | trivial), (show 241 < nc by omega)⟩, ⟨⟨(by first | rfl | trivial), (show 242 < nc by omega), (q.2 c2).1⟩, ⟨⟨Kx1_6, (show x1 + 6 < nc by omega), (q.2 c2).2.1⟩, ⟨⟨(by first | rfl | trivial), (show 241 < nc by omega)⟩, ⟨⟨(Or.inr (by first | rfl | trivial)), (show 243 < nc by omega), (q.2 c2).2.2.1⟩, ⟨(q.2 c2).2.2.2.1, fun c1 => ⟨⟨(by first | rfl | trivial), (show 241 < nc by omega)⟩, ((q.2 c2).2.2.2.2 c1)⟩⟩⟩⟩⟩⟩⟩⟩⟩⟩
set_option maxRecDepth 100000 in
theorem go_X3_step_61 {nc : Nat} {C : tf_C} {Q : tf_Q} {h : LH} (hn : 270 ≤ nc) {x1 : Nat} {x2 : Int32} {x3 : Int32} {x4 : Int32} {y0 ny0 : Nat} {y1 : Int32} {y2 : Int32} (Kx1_0 : tf_K x1 = 0) (Ky0_0 : tf_K y0 = 8) (Ny0_0 : tf_N y0 = ny0) (By0 : y0 < nc) (q : lx_X3_step nc C Q 66 [.ref (241), .ref (x1), .int (x2), .int (x3), .int (x4)] [.int (-(h.1 241 4)), .int (y2), .int (y1), .ref (y0)] h) : lx_X3_step nc C Q 61 [.ref (241), .ref (x1), .int (x2), .int (x3), .int (x4)] [.int (y2), .int (y1), .ref (y0)] h := by
  obtain ⟨Bx1, ⟨Kx1_1, Kx1_2, Kx1_3, Kx1_4, Kx1_5, Kx1_6, Kx1_7, Kx1_8, Kx1_9, Kx1_10, Kx1_11, Kx1_12, Kx1_13, Kx1_14⟩, ⟨Nx1_1, Nx1_2, Nx1_3, Nx1_4, Nx1_5, Nx1_6, Nx1_7, Nx1_8, Nx1_9, Nx1_10, Nx1_12, Nx1_13, Nx1_14⟩⟩ := tn_net Kx1_0
  refine tf_LW_go ?_
  show (tf_K 241 = 2 ∧ 241 < nc) ∧ lx_X3_step nc C Q 66 [.ref (241), .ref (x1), .int (x2), .int (x3), .int (x4)] [.int (-(h.1 241 4)), .int (y2), .int (y1), .ref (y0)] h
  try simp only [Ny0_0]
  exact ⟨⟨(by first | rfl | trivial), (show 241 < nc by omega)⟩, q⟩
set_option maxRecDepth 100000 in
theorem go_X3_step_66 {nc : Nat} {C : tf_C} {Q : tf_Q} {h : LH} (hn : 270 ≤ nc) {x1 : Nat} {x2 : Int32} {x3 : Int32} {x4 : Int32} {y0 ny0 : Nat} {y1 : Int32} {y2 : Int32} {y3 : Int32} (Kx1_0 : tf_K x1 = 0) (Ky0_0 : tf_K y0 = 8) (Ny0_0 : tf_N y0 = ny0) (By0 : y0 < nc) (q : (vp_in y1 ny0) ∧ lx_X3_step nc C Q 22 [.ref (241), .ref (x1), .int (x2), .int (x3), .int (x4 + 1)] [] (tf_up h.1 y0 (y1 : Int32).toNatClampNeg (y2 + y3), h.2)) : lx_X3_step nc C Q 66 [.ref (241), .ref (x1), .int (x2), .int (x3), .int (x4)] [.int (y3), .int (y2), .int (y1), .ref (y0)] h := by
  obtain ⟨Bx1, ⟨Kx1_1, Kx1_2, Kx1_3, Kx1_4, Kx1_5, Kx1_6, Kx1_7, Kx1_8, Kx1_9, Kx1_10, Kx1_11, Kx1_12, Kx1_13, Kx1_14⟩, ⟨Nx1_1, Nx1_2, Nx1_3, Nx1_4, Nx1_5, Nx1_6, Nx1_7, Nx1_8, Nx1_9, Nx1_10, Nx1_12, Nx1_13, Nx1_14⟩⟩ := tn_net Kx1_0
  refine tf_LW_go ?_
  show (tf_K y0 = 8 ∧ y0 < nc ∧ vp_in y1 (tf_N y0)) ∧ lx_X3_step nc C Q 22 [.ref (241), .ref (x1), .int (x2), .int (x3), .int (x4 + 1)] [] (tf_up h.1 y0 (y1 : Int32).toNatClampNeg (y2 + y3), h.2)
  try simp only [Ny0_0]
  exact ⟨⟨Ky0_0, (show y0 < nc by omega), q.1⟩, q.2⟩
set_option maxRecDepth 100000 in
theorem go_X3_step_74 {nc : Nat} {C : tf_C} {Q : tf_Q} {h : LH} (hn : 270 ≤ nc) {x1 : Nat} {x2 : Int32} {x3 : Int32} {x4 : Int32} (Kx1_0 : tf_K x1 = 0) (q : (vp_in (h.1 241 6) 8) ∧ C 165 [.ref (241), .ref (x1), .int (x3), .int (h.1 242 (h.1 241 6 : Int32).toNatClampNeg)] h (fun r g => lx_X3_step nc C Q 89 [.ref (241), .ref (x1), .int (x2), .int (x3), .int (x4)] [] g)) : lx_X3_step nc C Q 74 [.ref (241), .ref (x1), .int (x2), .int (x3), .int (x4)] [] h := by
  obtain ⟨Bx1, ⟨Kx1_1, Kx1_2, Kx1_3, Kx1_4, Kx1_5, Kx1_6, Kx1_7, Kx1_8, Kx1_9, Kx1_10, Kx1_11, Kx1_12, Kx1_13, Kx1_14⟩, ⟨Nx1_1, Nx1_2, Nx1_3, Nx1_4, Nx1_5, Nx1_6, Nx1_7, Nx1_8, Nx1_9, Nx1_10, Nx1_12, Nx1_13, Nx1_14⟩⟩ := tn_net Kx1_0
  refine tf_LW_go ?_
  exact ⟨⟨(by first | rfl | trivial), (show 241 < nc by omega)⟩, ⟨⟨(by first | rfl | trivial), (show 241 < nc by omega)⟩, ⟨⟨(by first | rfl | trivial), (show 242 < nc by omega), q.1⟩, ⟨Nat.le_of_ble_eq_true rfl, Nat.le_of_ble_eq_true rfl, q.2⟩⟩⟩⟩
set_option maxRecDepth 100000 in
theorem go_X3_step_89 {nc : Nat} {C : tf_C} {Q : tf_Q} {h : LH} (hn : 270 ≤ nc) {x1 : Nat} {x2 : Int32} {x3 : Int32} {x4 : Int32} (Kx1_0 : tf_K x1 = 0) (q : (vp_in (h.1 241 6) 8) ∧ C 172 [.ref (x1 + 11), .int (x3), .int (h.1 242 (h.1 241 6 : Int32).toNatClampNeg), .int (h.1 241 4)] h (fun r g => lx_X3_step nc C Q 110 [.ref (241), .ref (x1), .int (x2), .int (x3), .int (x4)] [] g)) : lx_X3_step nc C Q 89 [.ref (241), .ref (x1), .int (x2), .int (x3), .int (x4)] [] h := by
  obtain ⟨Bx1, ⟨Kx1_1, Kx1_2, Kx1_3, Kx1_4, Kx1_5, Kx1_6, Kx1_7, Kx1_8, Kx1_9, Kx1_10, Kx1_11, Kx1_12, Kx1_13, Kx1_14⟩, ⟨Nx1_1, Nx1_2, Nx1_3, Nx1_4, Nx1_5, Nx1_6, Nx1_7, Nx1_8, Nx1_9, Nx1_10, Nx1_12, Nx1_13, Nx1_14⟩⟩ := tn_net Kx1_0
  refine tf_LW_go ?_
  show (tf_K x1 = 0 ∧ x1 < nc) ∧ (tf_K 241 = 2 ∧ 241 < nc) ∧ (tf_K 241 = 2 ∧ 241 < nc) ∧ (tf_K 242 = 8 ∧ 242 < nc ∧ vp_in (h.1 241 6) 8) ∧ (tf_K 241 = 2 ∧ 241 < nc) ∧ 4 ≤ 4 ∧ 0 ≤ 8 ∧ C 172 [.ref (tf_R x1 13), .int (x3), .int (h.1 242 (h.1 241 6 : Int32).toNatClampNeg), .int (h.1 241 4)] h (fun r g => lx_X3_step nc C Q 110 [.ref (241), .ref (x1), .int (x2), .int (x3), .int (x4)] [] g)
  try simp only [(show tf_R x1 13 = x1 + 11 by rw [tn_R0 Kx1_0]; try omega)]
  exact ⟨⟨Kx1_0, (show x1 < nc by omega)⟩, ⟨⟨(by first | rfl | trivial), (show 241 < nc by omega)⟩, ⟨⟨(by first | rfl | trivial), (show 241 < nc by omega)⟩, ⟨⟨(by first | rfl | trivial), (show 242 < nc by omega), q.1⟩, ⟨⟨(by first | rfl | trivial), (show 241 < nc by omega)⟩, ⟨Nat.le_of_ble_eq_true rfl, Nat.le_of_ble_eq_true rfl, q.2⟩⟩⟩⟩⟩⟩
set_option maxRecDepth 100000 in
theorem go_X3_step_110 {nc : Nat} {C : tf_C} {Q : tf_Q} {h : LH} (hn : 270 ≤ nc) {x1 : Nat} {x2 : Int32} {x3 : Int32} {x4 : Int32} (Kx1_0 : tf_K x1 = 0) (q : Q (.int (x3)) h) : lx_X3_step nc C Q 110 [.ref (241), .ref (x1), .int (x2), .int (x3), .int (x4)] [] h := by
  obtain ⟨Bx1, ⟨Kx1_1, Kx1_2, Kx1_3, Kx1_4, Kx1_5, Kx1_6, Kx1_7, Kx1_8, Kx1_9, Kx1_10, Kx1_11, Kx1_12, Kx1_13, Kx1_14⟩, ⟨Nx1_1, Nx1_2, Nx1_3, Nx1_4, Nx1_5, Nx1_6, Nx1_7, Nx1_8, Nx1_9, Nx1_10, Nx1_12, Nx1_13, Nx1_14⟩⟩ := tn_net Kx1_0
  refine tf_LW_go ?_
  exact ⟨(by first | trivial | rfl), q⟩
abbrev lx_X3_run (nc : Nat) (C : tf_C) (Q : tf_Q) : tf_X := tf_LW nc C (tf_F 2) (tf_M 2) (tf_I 2) (tf_Eh 160) 1 tb_X3_run Q
set_option maxRecDepth 100000 in
theorem go_X3_run_0 {nc : Nat} {C : tf_C} {Q : tf_Q} {h : LH} (hn : 270 ≤ nc) {x1 : Nat} {x2 : Int32} {x3 : Int32} (Kx1_0 : tf_K x1 = 0) (q : lx_X3_run nc C Q 3 [.ref (241), .ref (x1), .int (x2), .int (x3), .int (0)] [] h) : lx_X3_run nc C Q 0 [.ref (241), .ref (x1), .int (x2), .int (x3), tf_z] [] h := by
  obtain ⟨Bx1, ⟨Kx1_1, Kx1_2, Kx1_3, Kx1_4, Kx1_5, Kx1_6, Kx1_7, Kx1_8, Kx1_9, Kx1_10, Kx1_11, Kx1_12, Kx1_13, Kx1_14⟩, ⟨Nx1_1, Nx1_2, Nx1_3, Nx1_4, Nx1_5, Nx1_6, Nx1_7, Nx1_8, Nx1_9, Nx1_10, Nx1_12, Nx1_13, Nx1_14⟩⟩ := tn_net Kx1_0
  refine tf_LW_go ?_
  exact q
theorem en_X3_run {nc d : Nat} {Q : tf_Q} {h : LH} (hn : 270 ≤ nc) {x1 : Nat} {x2 : Int32} {x3 : Int32} (Kx1_0 : tf_K x1 = 0) (q : lx_X3_run nc (tf_Cd nc d) Q 0 [.ref (241), .ref (x1), .int (x2), .int (x3), tf_z] [] h) : tf_Cd nc (d + 1) 160 [.ref (241), .ref (x1), .int (x2), .int (x3)] h Q := by
  obtain ⟨Bx1, ⟨Kx1_1, Kx1_2, Kx1_3, Kx1_4, Kx1_5, Kx1_6, Kx1_7, Kx1_8, Kx1_9, Kx1_10, Kx1_11, Kx1_12, Kx1_13, Kx1_14⟩, ⟨Nx1_1, Nx1_2, Nx1_3, Nx1_4, Nx1_5, Nx1_6, Nx1_7, Nx1_8, Nx1_9, Nx1_10, Nx1_12, Nx1_13, Nx1_14⟩⟩ := tn_net Kx1_0
  exact ⟨⟨Nat.le_of_ble_eq_true rfl, Or.inr ⟨rfl, (show 241 < nc by omega)⟩⟩, q⟩
set_option maxRecDepth 100000 in
theorem go_X3_run_3 {nc : Nat} {C : tf_C} {Q : tf_Q} {h : LH} (hn : 270 ≤ nc) {x1 : Nat} {x2 : Int32} {x3 : Int32} {x4 : Int32} (Kx1_0 : tf_K x1 = 0) (q : (x3 ≤ x4 → lx_X3_run nc C Q 25 [.ref (241), .ref (x1), .int (x2), .int (x3), .int (x4)] [] h) ∧ (¬ x3 ≤ x4 → C 159 [.ref (241), .ref (x1), .int (x2)] h (fun r g => lx_X3_run nc C Q 15 [.ref (241), .ref (x1), .int (x2), .int (x3), .int (x4)] (r :: []) g))) : lx_X3_run nc C Q 3 [.ref (241), .ref (x1), .int (x2), .int (x3), .int (x4)] [] h := by
  obtain ⟨Bx1, ⟨Kx1_1, Kx1_2, Kx1_3, Kx1_4, Kx1_5, Kx1_6, Kx1_7, Kx1_8, Kx1_9, Kx1_10, Kx1_11, Kx1_12, Kx1_13, Kx1_14⟩, ⟨Nx1_1, Nx1_2, Nx1_3, Nx1_4, Nx1_5, Nx1_6, Nx1_7, Nx1_8, Nx1_9, Nx1_10, Nx1_12, Nx1_13, Nx1_14⟩⟩ := tn_net Kx1_0
  refine tf_LW_go ?_
  exact ⟨q.1, fun c1 => ⟨Nat.le_of_ble_eq_true rfl, Nat.le_of_ble_eq_true rfl, (q.2 c1)⟩⟩
set_option maxRecDepth 100000 in
theorem go_X3_run_15 {nc : Nat} {C : tf_C} {Q : tf_Q} {h : LH} (hn : 270 ≤ nc) {x1 : Nat} {x2 : Int32} {x3 : Int32} {x4 : Int32} {y0 : Int32} (Kx1_0 : tf_K x1 = 0) (q : (y0 = ((-1) : Int32) → lx_X3_run nc C Q 25 [.ref (241), .ref (x1), .int (x2), .int (x3), .int (x4)] [] h) ∧ (¬ y0 = ((-1) : Int32) → lx_X3_run nc C Q 3 [.ref (241), .ref (x1), .int (x2), .int (x3), .int (x4 + 1)] [] h)) : lx_X3_run nc C Q 15 [.ref (241), .ref (x1), .int (x2), .int (x3), .int (x4)] [.int (y0)] h := by
  obtain ⟨Bx1, ⟨Kx1_1, Kx1_2, Kx1_3, Kx1_4, Kx1_5, Kx1_6, Kx1_7, Kx1_8, Kx1_9, Kx1_10, Kx1_11, Kx1_12, Kx1_13, Kx1_14⟩, ⟨Nx1_1, Nx1_2, Nx1_3, Nx1_4, Nx1_5, Nx1_6, Nx1_7, Nx1_8, Nx1_9, Nx1_10, Nx1_12, Nx1_13, Nx1_14⟩⟩ := tn_net Kx1_0
  refine tf_LW_go ?_
  exact ⟨q.1, fun c1 => (q.2 c1)⟩
set_option maxRecDepth 100000 in
theorem go_X3_run_25 {nc : Nat} {C : tf_C} {Q : tf_Q} {h : LH} (hn : 270 ≤ nc) {x1 : Nat} {x2 : Int32} {x3 : Int32} {x4 : Int32} (Kx1_0 : tf_K x1 = 0) (q : Q (.int (x4)) h) : lx_X3_run nc C Q 25 [.ref (241), .ref (x1), .int (x2), .int (x3), .int (x4)] [] h := by
  obtain ⟨Bx1, ⟨Kx1_1, Kx1_2, Kx1_3, Kx1_4, Kx1_5, Kx1_6, Kx1_7, Kx1_8, Kx1_9, Kx1_10, Kx1_11, Kx1_12, Kx1_13, Kx1_14⟩, ⟨Nx1_1, Nx1_2, Nx1_3, Nx1_4, Nx1_5, Nx1_6, Nx1_7, Nx1_8, Nx1_9, Nx1_10, Nx1_12, Nx1_13, Nx1_14⟩⟩ := tn_net Kx1_0
  refine tf_LW_go ?_
  exact ⟨(by first | trivial | rfl), q⟩
abbrev lx_X3_leaving (nc : Nat) (C : tf_C) (Q : tf_Q) : tf_X := tf_LW nc C (tf_F 2) (tf_M 2) (tf_I 2) (tf_Eh 161) 1 tb_X3_leaving Q
set_option maxRecDepth 100000 in
theorem go_X3_leaving_0 {nc : Nat} {C : tf_C} {Q : tf_Q} {h : LH} (hn : 270 ≤ nc) (q : (vp_in (h.1 241 6) 8) ∧ Q (.int (h.1 242 (h.1 241 6 : Int32).toNatClampNeg)) h) : lx_X3_leaving nc C Q 0 [.ref (241)] [] h := by
  refine tf_LW_go ?_
  exact ⟨⟨(by first | rfl | trivial), (show 241 < nc by omega)⟩, ⟨⟨(by first | rfl | trivial), (show 241 < nc by omega)⟩, ⟨⟨(by first | rfl | trivial), (show 242 < nc by omega), q.1⟩, ⟨(by first | trivial | rfl), q.2⟩⟩⟩⟩
theorem en_X3_leaving {nc d : Nat} {Q : tf_Q} {h : LH} (hn : 270 ≤ nc) (q : lx_X3_leaving nc (tf_Cd nc d) Q 0 [.ref (241)] [] h) : tf_Cd nc (d + 1) 161 [.ref (241)] h Q := by
  exact ⟨⟨Nat.le_of_ble_eq_true rfl, Or.inr ⟨rfl, (show 241 < nc by omega)⟩⟩, q⟩
abbrev lx_X3_leastRoom (nc : Nat) (C : tf_C) (Q : tf_Q) : tf_X := tf_LW nc C (tf_F 2) (tf_M 2) (tf_I 2) (tf_Eh 162) 1 tb_X3_leastRoom Q
set_option maxRecDepth 100000 in
theorem go_X3_leastRoom_0 {nc : Nat} {C : tf_C} {Q : tf_Q} {h : LH} (hn : 270 ≤ nc) {x1 : Nat} (Kx1_0 : tf_K x1 = 0) (q : lx_X3_leastRoom nc C Q 5 [.ref (241), .ref (x1), .int (1000000), .int (0)] [] h) : lx_X3_leastRoom nc C Q 0 [.ref (241), .ref (x1), tf_z, tf_z] [] h := by
  obtain ⟨Bx1, ⟨Kx1_1, Kx1_2, Kx1_3, Kx1_4, Kx1_5, Kx1_6, Kx1_7, Kx1_8, Kx1_9, Kx1_10, Kx1_11, Kx1_12, Kx1_13, Kx1_14⟩, ⟨Nx1_1, Nx1_2, Nx1_3, Nx1_4, Nx1_5, Nx1_6, Nx1_7, Nx1_8, Nx1_9, Nx1_10, Nx1_12, Nx1_13, Nx1_14⟩⟩ := tn_net Kx1_0
  refine tf_LW_go ?_
  exact q
theorem en_X3_leastRoom {nc d : Nat} {Q : tf_Q} {h : LH} (hn : 270 ≤ nc) {x1 : Nat} (Kx1_0 : tf_K x1 = 0) (q : lx_X3_leastRoom nc (tf_Cd nc d) Q 0 [.ref (241), .ref (x1), tf_z, tf_z] [] h) : tf_Cd nc (d + 1) 162 [.ref (241), .ref (x1)] h Q := by
  obtain ⟨Bx1, ⟨Kx1_1, Kx1_2, Kx1_3, Kx1_4, Kx1_5, Kx1_6, Kx1_7, Kx1_8, Kx1_9, Kx1_10, Kx1_11, Kx1_12, Kx1_13, Kx1_14⟩, ⟨Nx1_1, Nx1_2, Nx1_3, Nx1_4, Nx1_5, Nx1_6, Nx1_7, Nx1_8, Nx1_9, Nx1_10, Nx1_12, Nx1_13, Nx1_14⟩⟩ := tn_net Kx1_0
  exact ⟨⟨Nat.le_of_ble_eq_true rfl, Or.inr ⟨rfl, (show 241 < nc by omega)⟩⟩, q⟩
set_option maxRecDepth 100000 in
theorem go_X3_leastRoom_5 {nc : Nat} {C : tf_C} {Q : tf_Q} {h : LH} (hn : 270 ≤ nc) {x1 : Nat} {x2 : Int32} {x3 : Int32} (Kx1_0 : tf_K x1 = 0) (q : ((h.1 241 2) ≤ x3 → lx_X3_leastRoom nc C Q 40 [.ref (241), .ref (x1), .int (x2), .int (x3)] [] h) ∧ (¬ (h.1 241 2) ≤ x3 → (vp_in x3 8) ∧ (vp_in x3 8) ∧ C 136 [.ref (x1), .int (h.1 242 (x3 : Int32).toNatClampNeg), .int (h.1 243 (x3 : Int32).toNatClampNeg)] h (fun r g => lx_X3_leastRoom nc C Q 30 [.ref (241), .ref (x1), .int (x2), .int (x3)] (r :: [.int (x2)]) g))) : lx_X3_leastRoom nc C Q 5 [.ref (241), .ref (x1), .int (x2), .int (x3)] [] h := by
  obtain ⟨Bx1, ⟨Kx1_1, Kx1_2, Kx1_3, Kx1_4, Kx1_5, Kx1_6, Kx1_7, Kx1_8, Kx1_9, Kx1_10, Kx1_11, Kx1_12, Kx1_13, Kx1_14⟩, ⟨Nx1_1, Nx1_2, Nx1_3, Nx1_4, Nx1_5, Nx1_6, Nx1_7, Nx1_8, Nx1_9, Nx1_10, Nx1_12, Nx1_13, Nx1_14⟩⟩ := tn_net Kx1_0
  refine tf_LW_go ?_
  exact ⟨⟨(by first | rfl | trivial), (show 241 < nc by omega)⟩, ⟨q.1, fun c1 => ⟨⟨(by first | rfl | trivial), (show 241 < nc by omega)⟩, ⟨⟨(by first | rfl | trivial), (show 242 < nc by omega), (q.2 c1).1⟩, ⟨⟨(by first | rfl | trivial), (show 241 < nc by omega)⟩, ⟨⟨(Or.inr (by first | rfl | trivial)), (show 243 < nc by omega), (q.2 c1).2.1⟩, ⟨Nat.le_of_ble_eq_true rfl, Nat.le_of_ble_eq_true rfl, (q.2 c1).2.2⟩⟩⟩⟩⟩⟩⟩
set_option maxRecDepth 100000 in
theorem go_X3_leastRoom_30 {nc : Nat} {C : tf_C} {Q : tf_Q} {h : LH} (hn : 270 ≤ nc) {x1 : Nat} {x2 : Int32} {x3 : Int32} {y0 : Int32} {y1 : Int32} (Kx1_0 : tf_K x1 = 0) (q : C 1002 [.int (y0), .int (y1)] h (fun r g => lx_X3_leastRoom nc C Q 33 [.ref (241), .ref (x1), .int (x2), .int (x3)] (r :: []) g)) : lx_X3_leastRoom nc C Q 30 [.ref (241), .ref (x1), .int (x2), .int (x3)] [.int (y1), .int (y0)] h := by
  obtain ⟨Bx1, ⟨Kx1_1, Kx1_2, Kx1_3, Kx1_4, Kx1_5, Kx1_6, Kx1_7, Kx1_8, Kx1_9, Kx1_10, Kx1_11, Kx1_12, Kx1_13, Kx1_14⟩, ⟨Nx1_1, Nx1_2, Nx1_3, Nx1_4, Nx1_5, Nx1_6, Nx1_7, Nx1_8, Nx1_9, Nx1_10, Nx1_12, Nx1_13, Nx1_14⟩⟩ := tn_net Kx1_0
  refine tf_LW_go ?_
  exact ⟨Nat.le_of_ble_eq_true rfl, Nat.le_of_ble_eq_true rfl, q⟩
set_option maxRecDepth 100000 in
theorem go_X3_leastRoom_33 {nc : Nat} {C : tf_C} {Q : tf_Q} {h : LH} (hn : 270 ≤ nc) {x1 : Nat} {x2 : Int32} {x3 : Int32} {y0 : Int32} (Kx1_0 : tf_K x1 = 0) (q : lx_X3_leastRoom nc C Q 5 [.ref (241), .ref (x1), .int (y0), .int (x3 + 1)] [] h) : lx_X3_leastRoom nc C Q 33 [.ref (241), .ref (x1), .int (x2), .int (x3)] [.int (y0)] h := by
  obtain ⟨Bx1, ⟨Kx1_1, Kx1_2, Kx1_3, Kx1_4, Kx1_5, Kx1_6, Kx1_7, Kx1_8, Kx1_9, Kx1_10, Kx1_11, Kx1_12, Kx1_13, Kx1_14⟩, ⟨Nx1_1, Nx1_2, Nx1_3, Nx1_4, Nx1_5, Nx1_6, Nx1_7, Nx1_8, Nx1_9, Nx1_10, Nx1_12, Nx1_13, Nx1_14⟩⟩ := tn_net Kx1_0
  refine tf_LW_go ?_
  exact q
set_option maxRecDepth 100000 in
theorem go_X3_leastRoom_40 {nc : Nat} {C : tf_C} {Q : tf_Q} {h : LH} (hn : 270 ≤ nc) {x1 : Nat} {x2 : Int32} {x3 : Int32} (Kx1_0 : tf_K x1 = 0) (q : Q (.int (x2)) h) : lx_X3_leastRoom nc C Q 40 [.ref (241), .ref (x1), .int (x2), .int (x3)] [] h := by
  obtain ⟨Bx1, ⟨Kx1_1, Kx1_2, Kx1_3, Kx1_4, Kx1_5, Kx1_6, Kx1_7, Kx1_8, Kx1_9, Kx1_10, Kx1_11, Kx1_12, Kx1_13, Kx1_14⟩, ⟨Nx1_1, Nx1_2, Nx1_3, Nx1_4, Nx1_5, Nx1_6, Nx1_7, Nx1_8, Nx1_9, Nx1_10, Nx1_12, Nx1_13, Nx1_14⟩⟩ := tn_net Kx1_0
  refine tf_LW_go ?_
  exact ⟨(by first | trivial | rfl), q⟩
abbrev lx_X3_cost (nc : Nat) (C : tf_C) (Q : tf_Q) : tf_X := tf_LW nc C (tf_F 2) (tf_M 2) (tf_I 2) (tf_Eh 163) 1 tb_X3_cost Q
set_option maxRecDepth 100000 in
theorem go_X3_cost_0 {nc : Nat} {C : tf_C} {Q : tf_Q} {h : LH} (hn : 270 ≤ nc) {x1 : Nat} (Kx1_0 : tf_K x1 = 0) (q : lx_X3_cost nc C Q 4 [.ref (241), .ref (x1), .int (0), .int (0)] [] h) : lx_X3_cost nc C Q 0 [.ref (241), .ref (x1), tf_z, tf_z] [] h := by
  obtain ⟨Bx1, ⟨Kx1_1, Kx1_2, Kx1_3, Kx1_4, Kx1_5, Kx1_6, Kx1_7, Kx1_8, Kx1_9, Kx1_10, Kx1_11, Kx1_12, Kx1_13, Kx1_14⟩, ⟨Nx1_1, Nx1_2, Nx1_3, Nx1_4, Nx1_5, Nx1_6, Nx1_7, Nx1_8, Nx1_9, Nx1_10, Nx1_12, Nx1_13, Nx1_14⟩⟩ := tn_net Kx1_0
  refine tf_LW_go ?_
  exact q
theorem en_X3_cost {nc d : Nat} {Q : tf_Q} {h : LH} (hn : 270 ≤ nc) {x1 : Nat} (Kx1_0 : tf_K x1 = 0) (q : lx_X3_cost nc (tf_Cd nc d) Q 0 [.ref (241), .ref (x1), tf_z, tf_z] [] h) : tf_Cd nc (d + 1) 163 [.ref (241), .ref (x1)] h Q := by
  obtain ⟨Bx1, ⟨Kx1_1, Kx1_2, Kx1_3, Kx1_4, Kx1_5, Kx1_6, Kx1_7, Kx1_8, Kx1_9, Kx1_10, Kx1_11, Kx1_12, Kx1_13, Kx1_14⟩, ⟨Nx1_1, Nx1_2, Nx1_3, Nx1_4, Nx1_5, Nx1_6, Nx1_7, Nx1_8, Nx1_9, Nx1_10, Nx1_12, Nx1_13, Nx1_14⟩⟩ := tn_net Kx1_0
  exact ⟨⟨Nat.le_of_ble_eq_true rfl, Or.inr ⟨rfl, (show 241 < nc by omega)⟩⟩, q⟩
set_option maxRecDepth 100000 in
theorem go_X3_cost_4 {nc : Nat} {C : tf_C} {Q : tf_Q} {h : LH} (hn : 270 ≤ nc) {x1 : Nat} {x2 : Int32} {x3 : Int32} (Kx1_0 : tf_K x1 = 0) (q : ((h.1 241 2) ≤ x3 → lx_X3_cost nc C Q 56 [.ref (241), .ref (x1), .int (x2), .int (x3)] [] h) ∧ (¬ (h.1 241 2) ≤ x3 → (vp_in x3 8) ∧ ((h.1 243 (x3 : Int32).toNatClampNeg) = (0 : Int32) → lx_X3_cost nc C Q 36 [.ref (241), .ref (x1), .int (x2), .int (x3)] [.int (x2)] h) ∧ (¬ (h.1 243 (x3 : Int32).toNatClampNeg) = (0 : Int32) → (vp_in x3 8) ∧ (vp_in (h.1 242 (x3 : Int32).toNatClampNeg) 21) ∧ lx_X3_cost nc C Q 48 [.ref (241), .ref (x1), .int (x2), .int (x3)] [.int (h.1 (x1 + 5) (h.1 242 (x3 : Int32).toNatClampNeg : Int32).toNatClampNeg), .int (x2)] h))) : lx_X3_cost nc C Q 4 [.ref (241), .ref (x1), .int (x2), .int (x3)] [] h := by
  obtain ⟨Bx1, ⟨Kx1_1, Kx1_2, Kx1_3, Kx1_4, Kx1_5, Kx1_6, Kx1_7, Kx1_8, Kx1_9, Kx1_10, Kx1_11, Kx1_12, Kx1_13, Kx1_14⟩, ⟨Nx1_1, Nx1_2, Nx1_3, Nx1_4, Nx1_5, Nx1_6, Nx1_7, Nx1_8, Nx1_9, Nx1_10, Nx1_12, Nx1_13, Nx1_14⟩⟩ := tn_net Kx1_0
  refine tf_LW_go ?_
  show (tf_K 241 = 2 ∧ 241 < nc) ∧ ((h.1 241 2) ≤ x3 → lx_X3_cost nc C Q 56 [.ref (241), .ref (x1), .int (x2), .int (x3)] [] h) ∧ (¬ (h.1 241 2) ≤ x3 → (tf_K 241 = 2 ∧ 241 < nc) ∧ ((tf_K 243 = 10 ∨ tf_K 243 = 11) ∧ 243 < nc ∧ vp_in x3 8) ∧ ((h.1 243 (x3 : Int32).toNatClampNeg) = (0 : Int32) → lx_X3_cost nc C Q 36 [.ref (241), .ref (x1), .int (x2), .int (x3)] [.int (x2)] h) ∧ (¬ (h.1 243 (x3 : Int32).toNatClampNeg) = (0 : Int32) → (tf_K x1 = 0 ∧ x1 < nc) ∧ (tf_K 241 = 2 ∧ 241 < nc) ∧ (tf_K 242 = 8 ∧ 242 < nc ∧ vp_in x3 8) ∧ (tf_K (tf_R x1 7) = 8 ∧ (tf_R x1 7) < nc ∧ vp_in (h.1 242 (x3 : Int32).toNatClampNeg) (tf_N (tf_R x1 7))) ∧ lx_X3_cost nc C Q 48 [.ref (241), .ref (x1), .int (x2), .int (x3)] [.int (h.1 (tf_R x1 7) (h.1 242 (x3 : Int32).toNatClampNeg : Int32).toNatClampNeg), .int (x2)] h))
  try simp only [(show tf_R x1 7 = x1 + 5 by rw [tn_R0 Kx1_0]; try omega), Nx1_5]
  exact ⟨⟨(by first | rfl | trivial), (show 241 < nc by omega)⟩, ⟨q.1, fun c2 => ⟨⟨(by first | rfl | trivial), (show 241 < nc by omega)⟩, ⟨⟨(Or.inr (by first | rfl | trivial)), (show 243 < nc by omega), (q.2 c2).1⟩, ⟨(q.2 c2).2.1, fun c1 => ⟨⟨Kx1_0, (show x1 < nc by omega)⟩, ⟨⟨(by first | rfl | trivial), (show 241 < nc by omega)⟩, ⟨⟨(by first | rfl | trivial), (show 242 < nc by omega), ((q.2 c2).2.2 c1).1⟩, ⟨⟨Kx1_5, (show x1 + 5 < nc by omega), ((q.2 c2).2.2 c1).2.1⟩, ((q.2 c2).2.2 c1).2.2⟩⟩⟩⟩⟩⟩⟩⟩⟩
set_option maxRecDepth 100000 in
theorem go_X3_cost_36 {nc : Nat} {C : tf_C} {Q : tf_Q} {h : LH} (hn : 270 ≤ nc) {x1 : Nat} {x2 : Int32} {x3 : Int32} {y0 : Int32} (Kx1_0 : tf_K x1 = 0) (q : (vp_in x3 8) ∧ (vp_in (h.1 242 (x3 : Int32).toNatClampNeg) 21) ∧ lx_X3_cost nc C Q 48 [.ref (241), .ref (x1), .int (x2), .int (x3)] [.int (-(h.1 (x1 + 5) (h.1 242 (x3 : Int32).toNatClampNeg : Int32).toNatClampNeg)), .int (y0)] h) : lx_X3_cost nc C Q 36 [.ref (241), .ref (x1), .int (x2), .int (x3)] [.int (y0)] h := by
  obtain ⟨Bx1, ⟨Kx1_1, Kx1_2, Kx1_3, Kx1_4, Kx1_5, Kx1_6, Kx1_7, Kx1_8, Kx1_9, Kx1_10, Kx1_11, Kx1_12, Kx1_13, Kx1_14⟩, ⟨Nx1_1, Nx1_2, Nx1_3, Nx1_4, Nx1_5, Nx1_6, Nx1_7, Nx1_8, Nx1_9, Nx1_10, Nx1_12, Nx1_13, Nx1_14⟩⟩ := tn_net Kx1_0
  refine tf_LW_go ?_
  show (tf_K x1 = 0 ∧ x1 < nc) ∧ (tf_K 241 = 2 ∧ 241 < nc) ∧ (tf_K 242 = 8 ∧ 242 < nc ∧ vp_in x3 8) ∧ (tf_K (tf_R x1 7) = 8 ∧ (tf_R x1 7) < nc ∧ vp_in (h.1 242 (x3 : Int32).toNatClampNeg) (tf_N (tf_R x1 7))) ∧ lx_X3_cost nc C Q 48 [.ref (241), .ref (x1), .int (x2), .int (x3)] [.int (-(h.1 (tf_R x1 7) (h.1 242 (x3 : Int32).toNatClampNeg : Int32).toNatClampNeg)), .int (y0)] h
  try simp only [(show tf_R x1 7 = x1 + 5 by rw [tn_R0 Kx1_0]; try omega), Nx1_5]
  exact ⟨⟨Kx1_0, (show x1 < nc by omega)⟩, ⟨⟨(by first | rfl | trivial), (show 241 < nc by omega)⟩, ⟨⟨(by first | rfl | trivial), (show 242 < nc by omega), q.1⟩, ⟨⟨Kx1_5, (show x1 + 5 < nc by omega), q.2.1⟩, q.2.2⟩⟩⟩⟩
set_option maxRecDepth 100000 in
theorem go_X3_cost_48 {nc : Nat} {C : tf_C} {Q : tf_Q} {h : LH} (hn : 270 ≤ nc) {x1 : Nat} {x2 : Int32} {x3 : Int32} {y0 : Int32} {y1 : Int32} (Kx1_0 : tf_K x1 = 0) (q : lx_X3_cost nc C Q 4 [.ref (241), .ref (x1), .int (y0 + y1), .int (x3 + 1)] [] h) : lx_X3_cost nc C Q 48 [.ref (241), .ref (x1), .int (x2), .int (x3)] [.int (y1), .int (y0)] h := by
  obtain ⟨Bx1, ⟨Kx1_1, Kx1_2, Kx1_3, Kx1_4, Kx1_5, Kx1_6, Kx1_7, Kx1_8, Kx1_9, Kx1_10, Kx1_11, Kx1_12, Kx1_13, Kx1_14⟩, ⟨Nx1_1, Nx1_2, Nx1_3, Nx1_4, Nx1_5, Nx1_6, Nx1_7, Nx1_8, Nx1_9, Nx1_10, Nx1_12, Nx1_13, Nx1_14⟩⟩ := tn_net Kx1_0
  refine tf_LW_go ?_
  exact q
set_option maxRecDepth 100000 in
theorem go_X3_cost_56 {nc : Nat} {C : tf_C} {Q : tf_Q} {h : LH} (hn : 270 ≤ nc) {x1 : Nat} {x2 : Int32} {x3 : Int32} (Kx1_0 : tf_K x1 = 0) (q : Q (.int (x2)) h) : lx_X3_cost nc C Q 56 [.ref (241), .ref (x1), .int (x2), .int (x3)] [] h := by
  obtain ⟨Bx1, ⟨Kx1_1, Kx1_2, Kx1_3, Kx1_4, Kx1_5, Kx1_6, Kx1_7, Kx1_8, Kx1_9, Kx1_10, Kx1_11, Kx1_12, Kx1_13, Kx1_14⟩, ⟨Nx1_1, Nx1_2, Nx1_3, Nx1_4, Nx1_5, Nx1_6, Nx1_7, Nx1_8, Nx1_9, Nx1_10, Nx1_12, Nx1_13, Nx1_14⟩⟩ := tn_net Kx1_0
  refine tf_LW_go ?_
  exact ⟨(by first | trivial | rfl), q⟩
abbrev lx_X3_told (nc : Nat) (C : tf_C) (Q : tf_Q) : tf_X := tf_LW nc C (tf_F 2) (tf_M 2) (tf_I 2) (tf_Eh 164) 1 tb_X3_told Q
set_option maxRecDepth 100000 in
theorem go_X3_told_0 {nc : Nat} {C : tf_C} {Q : tf_Q} {h : LH} (hn : 270 ≤ nc) {x1 : Int32} {x2 : Int32} (q : (x1 < (10 : Int32) → lx_X3_told nc C Q 17 [.ref (241), .int (x1), .int (x2)] [] h) ∧ (¬ x1 < (10 : Int32) → ((x1 - 10) < (h.1 241 2) → lx_X3_told nc C Q 19 [.ref (241), .int (x1), .int (x2)] [] h) ∧ (¬ (x1 - 10) < (h.1 241 2) → lx_X3_told nc C Q 17 [.ref (241), .int (x1), .int (x2)] [] h))) : lx_X3_told nc C Q 0 [.ref (241), .int (x1), .int (x2)] [] h := by
  refine tf_LW_go ?_
  exact ⟨q.1, fun c2 => ⟨⟨(by first | rfl | trivial), (show 241 < nc by omega)⟩, ⟨(q.2 c2).1, fun c1 => ((q.2 c2).2 c1)⟩⟩⟩
theorem en_X3_told {nc d : Nat} {Q : tf_Q} {h : LH} (hn : 270 ≤ nc) {x1 : Int32} {x2 : Int32} (q : lx_X3_told nc (tf_Cd nc d) Q 0 [.ref (241), .int (x1), .int (x2)] [] h) : tf_Cd nc (d + 1) 164 [.ref (241), .int (x1), .int (x2)] h Q := by
  exact ⟨⟨Nat.le_of_ble_eq_true rfl, Or.inr ⟨rfl, (show 241 < nc by omega)⟩⟩, q⟩
set_option maxRecDepth 100000 in
theorem go_X3_told_17 {nc : Nat} {C : tf_C} {Q : tf_Q} {h : LH} (hn : 270 ≤ nc) {x1 : Int32} {x2 : Int32} (q : Q (.int (x2)) h) : lx_X3_told nc C Q 17 [.ref (241), .int (x1), .int (x2)] [] h := by
  refine tf_LW_go ?_
  exact ⟨(by first | trivial | rfl), q⟩
set_option maxRecDepth 100000 in
theorem go_X3_told_19 {nc : Nat} {C : tf_C} {Q : tf_Q} {h : LH} (hn : 270 ≤ nc) {x1 : Int32} {x2 : Int32} (q : (vp_in (x1 - 10) 8) ∧ C 220 [.int (h.1 242 (x1 - 10 : Int32).toNatClampNeg)] h (fun r g => lx_X3_told nc C Q 31 [.ref (241), .int (x1), .int (x2)] (r :: []) g)) : lx_X3_told nc C Q 19 [.ref (241), .int (x1), .int (x2)] [] h := by
  refine tf_LW_go ?_
  exact ⟨⟨(by first | rfl | trivial), (show 241 < nc by omega)⟩, ⟨⟨(by first | rfl | trivial), (show 242 < nc by omega), q.1⟩, ⟨Nat.le_of_ble_eq_true rfl, Nat.le_of_ble_eq_true rfl, q.2⟩⟩⟩
set_option maxRecDepth 100000 in
theorem go_X3_told_31 {nc : Nat} {C : tf_C} {Q : tf_Q} {h : LH} (hn : 270 ≤ nc) {x1 : Int32} {x2 : Int32} {y0 : Int32} (q : Q (.int (y0)) h) : lx_X3_told nc C Q 31 [.ref (241), .int (x1), .int (x2)] [.int (y0)] h := by
  refine tf_LW_go ?_
  exact ⟨(by first | trivial | rfl), q⟩
abbrev lx_X3_exchange (nc : Nat) (C : tf_C) (Q : tf_Q) : tf_X := tf_LW nc C (tf_F 2) (tf_M 2) (tf_I 2) (tf_Eh 165) 0 tb_X3_exchange Q
set_option maxRecDepth 100000 in
theorem go_X3_exchange_0 {nc : Nat} {C : tf_C} {Q : tf_Q} {h : LH} (hn : 270 ≤ nc) {x1 : Nat} {x2 : Int32} {x3 : Int32} (Kx1_0 : tf_K x1 = 0) (q : (x3 = x2 → (vp_in (h.1 241 5) 8) ∧ ((h.1 243 (h.1 241 5 : Int32).toNatClampNeg) = (0 : Int32) → lx_X3_exchange nc C Q 26 [.ref (241), .ref (x1), .int (x2), .int (x3), tf_z, tf_z] [.int (x2), .ref (x1 + 7)] h) ∧ (¬ (h.1 243 (h.1 241 5 : Int32).toNatClampNeg) = (0 : Int32) → lx_X3_exchange nc C Q 27 [.ref (241), .ref (x1), .int (x2), .int (x3), tf_z, tf_z] [.int (1), .int (x2), .ref (x1 + 7)] h)) ∧ (¬ x3 = x2 → lx_X3_exchange nc C Q 29 [.ref (241), .ref (x1), .int (x2), .int (x3), tf_z, tf_z] [] h)) : lx_X3_exchange nc C Q 0 [.ref (241), .ref (x1), .int (x2), .int (x3), tf_z, tf_z] [] h := by
  obtain ⟨Bx1, ⟨Kx1_1, Kx1_2, Kx1_3, Kx1_4, Kx1_5, Kx1_6, Kx1_7, Kx1_8, Kx1_9, Kx1_10, Kx1_11, Kx1_12, Kx1_13, Kx1_14⟩, ⟨Nx1_1, Nx1_2, Nx1_3, Nx1_4, Nx1_5, Nx1_6, Nx1_7, Nx1_8, Nx1_9, Nx1_10, Nx1_12, Nx1_13, Nx1_14⟩⟩ := tn_net Kx1_0
  refine tf_LW_go ?_
  show (x3 = x2 → (tf_K x1 = 0 ∧ x1 < nc) ∧ (tf_K 241 = 2 ∧ 241 < nc) ∧ (tf_K 241 = 2 ∧ 241 < nc) ∧ ((tf_K 243 = 10 ∨ tf_K 243 = 11) ∧ 243 < nc ∧ vp_in (h.1 241 5) 8) ∧ ((h.1 243 (h.1 241 5 : Int32).toNatClampNeg) = (0 : Int32) → lx_X3_exchange nc C Q 26 [.ref (241), .ref (x1), .int (x2), .int (x3), tf_z, tf_z] [.int (x2), .ref (tf_R x1 9)] h) ∧ (¬ (h.1 243 (h.1 241 5 : Int32).toNatClampNeg) = (0 : Int32) → lx_X3_exchange nc C Q 27 [.ref (241), .ref (x1), .int (x2), .int (x3), tf_z, tf_z] [.int (1), .int (x2), .ref (tf_R x1 9)] h)) ∧ (¬ x3 = x2 → lx_X3_exchange nc C Q 29 [.ref (241), .ref (x1), .int (x2), .int (x3), tf_z, tf_z] [] h)
  try simp only [(show tf_R x1 9 = x1 + 7 by rw [tn_R0 Kx1_0]; try omega), Nx1_7]
  exact ⟨fun c2 => ⟨⟨Kx1_0, (show x1 < nc by omega)⟩, ⟨⟨(by first | rfl | trivial), (show 241 < nc by omega)⟩, ⟨⟨(by first | rfl | trivial), (show 241 < nc by omega)⟩, ⟨⟨(Or.inr (by first | rfl | trivial)), (show 243 < nc by omega), (q.1 c2).1⟩, ⟨(q.1 c2).2.1, fun c1 => ((q.1 c2).2.2 c1)⟩⟩⟩⟩⟩, q.2⟩
theorem en_X3_exchange {nc d : Nat} {Q : tf_Q} {h : LH} (hn : 270 ≤ nc) {x1 : Nat} {x2 : Int32} {x3 : Int32} (Kx1_0 : tf_K x1 = 0) (q : lx_X3_exchange nc (tf_Cd nc d) Q 0 [.ref (241), .ref (x1), .int (x2), .int (x3), tf_z, tf_z] [] h) : tf_Cd nc (d + 1) 165 [.ref (241), .ref (x1), .int (x2), .int (x3)] h Q := by
  obtain ⟨Bx1, ⟨Kx1_1, Kx1_2, Kx1_3, Kx1_4, Kx1_5, Kx1_6, Kx1_7, Kx1_8, Kx1_9, Kx1_10, Kx1_11, Kx1_12, Kx1_13, Kx1_14⟩, ⟨Nx1_1, Nx1_2, Nx1_3, Nx1_4, Nx1_5, Nx1_6, Nx1_7, Nx1_8, Nx1_9, Nx1_10, Nx1_12, Nx1_13, Nx1_14⟩⟩ := tn_net Kx1_0
  exact ⟨⟨Nat.le_of_ble_eq_true rfl, Or.inr ⟨rfl, (show 241 < nc by omega)⟩⟩, q⟩
set_option maxRecDepth 100000 in
theorem go_X3_exchange_26 {nc : Nat} {C : tf_C} {Q : tf_Q} {h : LH} (hn : 270 ≤ nc) {x1 : Nat} {x2 : Int32} {x3 : Int32} {y0 ny0 : Nat} {y1 : Int32} (Kx1_0 : tf_K x1 = 0) (Ky0_0 : tf_K y0 = 8) (Ny0_0 : tf_N y0 = ny0) (By0 : y0 < nc) (q : lx_X3_exchange nc C Q 27 [.ref (241), .ref (x1), .int (x2), .int (x3), tf_z, tf_z] [.int (0), .int (y1), .ref (y0)] h) : lx_X3_exchange nc C Q 26 [.ref (241), .ref (x1), .int (x2), .int (x3), tf_z, tf_z] [.int (y1), .ref (y0)] h := by
  obtain ⟨Bx1, ⟨Kx1_1, Kx1_2, Kx1_3, Kx1_4, Kx1_5, Kx1_6, Kx1_7, Kx1_8, Kx1_9, Kx1_10, Kx1_11, Kx1_12, Kx1_13, Kx1_14⟩, ⟨Nx1_1, Nx1_2, Nx1_3, Nx1_4, Nx1_5, Nx1_6, Nx1_7, Nx1_8, Nx1_9, Nx1_10, Nx1_12, Nx1_13, Nx1_14⟩⟩ := tn_net Kx1_0
  refine tf_LW_go ?_
  show lx_X3_exchange nc C Q 27 [.ref (241), .ref (x1), .int (x2), .int (x3), tf_z, tf_z] [.int (0), .int (y1), .ref (y0)] h
  try simp only [Ny0_0]
  exact q
set_option maxRecDepth 100000 in
theorem go_X3_exchange_27 {nc : Nat} {C : tf_C} {Q : tf_Q} {h : LH} (hn : 270 ≤ nc) {x1 : Nat} {x2 : Int32} {x3 : Int32} {y0 ny0 : Nat} {y1 : Int32} {y2 : Int32} (Kx1_0 : tf_K x1 = 0) (Ky0_0 : tf_K y0 = 8) (Ny0_0 : tf_N y0 = ny0) (By0 : y0 < nc) (q : (vp_in y1 ny0) ∧ Q tf_z (tf_up h.1 y0 (y1 : Int32).toNatClampNeg y2, h.2)) : lx_X3_exchange nc C Q 27 [.ref (241), .ref (x1), .int (x2), .int (x3), tf_z, tf_z] [.int (y2), .int (y1), .ref (y0)] h := by
  obtain ⟨Bx1, ⟨Kx1_1, Kx1_2, Kx1_3, Kx1_4, Kx1_5, Kx1_6, Kx1_7, Kx1_8, Kx1_9, Kx1_10, Kx1_11, Kx1_12, Kx1_13, Kx1_14⟩, ⟨Nx1_1, Nx1_2, Nx1_3, Nx1_4, Nx1_5, Nx1_6, Nx1_7, Nx1_8, Nx1_9, Nx1_10, Nx1_12, Nx1_13, Nx1_14⟩⟩ := tn_net Kx1_0
  refine tf_LW_go ?_
  show (tf_K y0 = 8 ∧ y0 < nc ∧ vp_in y1 (tf_N y0)) ∧ 0 = 0 ∧ Q tf_z (tf_up h.1 y0 (y1 : Int32).toNatClampNeg y2, h.2)
  try simp only [Ny0_0]
  exact ⟨⟨Ky0_0, (show y0 < nc by omega), q.1⟩, ⟨(by first | rfl | trivial), q.2⟩⟩
set_option maxRecDepth 100000 in
theorem go_X3_exchange_29 {nc : Nat} {C : tf_C} {Q : tf_Q} {h : LH} (hn : 270 ≤ nc) {x1 : Nat} {x2 : Int32} {x3 : Int32} (Kx1_0 : tf_K x1 = 0) (q : (vp_in (h.1 241 5) 8) ∧ ((h.1 243 (h.1 241 5 : Int32).toNatClampNeg) = (0 : Int32) → lx_X3_exchange nc C Q 50 [.ref (241), .ref (x1), .int (x2), .int (x3), tf_z, tf_z] [] h) ∧ (¬ (h.1 243 (h.1 241 5 : Int32).toNatClampNeg) = (0 : Int32) → (vp_in x2 21) ∧ lx_X3_exchange nc C Q 56 [.ref (241), .ref (x1), .int (x2), .int (x3), tf_z, tf_z] [.int (h.1 (x1 + 2) (x2 : Int32).toNatClampNeg)] h)) : lx_X3_exchange nc C Q 29 [.ref (241), .ref (x1), .int (x2), .int (x3), tf_z, tf_z] [] h := by
  obtain ⟨Bx1, ⟨Kx1_1, Kx1_2, Kx1_3, Kx1_4, Kx1_5, Kx1_6, Kx1_7, Kx1_8, Kx1_9, Kx1_10, Kx1_11, Kx1_12, Kx1_13, Kx1_14⟩, ⟨Nx1_1, Nx1_2, Nx1_3, Nx1_4, Nx1_5, Nx1_6, Nx1_7, Nx1_8, Nx1_9, Nx1_10, Nx1_12, Nx1_13, Nx1_14⟩⟩ := tn_net Kx1_0
  refine tf_LW_go ?_
  show (tf_K 241 = 2 ∧ 241 < nc) ∧ (tf_K 241 = 2 ∧ 241 < nc) ∧ ((tf_K 243 = 10 ∨ tf_K 243 = 11) ∧ 243 < nc ∧ vp_in (h.1 241 5) 8) ∧ ((h.1 243 (h.1 241 5 : Int32).toNatClampNeg) = (0 : Int32) → lx_X3_exchange nc C Q 50 [.ref (241), .ref (x1), .int (x2), .int (x3), tf_z, tf_z] [] h) ∧ (¬ (h.1 243 (h.1 241 5 : Int32).toNatClampNeg) = (0 : Int32) → (tf_K x1 = 0 ∧ x1 < nc) ∧ (tf_K (tf_R x1 4) = 8 ∧ (tf_R x1 4) < nc ∧ vp_in x2 (tf_N (tf_R x1 4))) ∧ lx_X3_exchange nc C Q 56 [.ref (241), .ref (x1), .int (x2), .int (x3), tf_z, tf_z] [.int (h.1 (tf_R x1 4) (x2 : Int32).toNatClampNeg)] h)
  try simp only [(show tf_R x1 4 = x1 + 2 by rw [tn_R0 Kx1_0]; try omega), Nx1_2]
  exact ⟨⟨(by first | rfl | trivial), (show 241 < nc by omega)⟩, ⟨⟨(by first | rfl | trivial), (show 241 < nc by omega)⟩, ⟨⟨(Or.inr (by first | rfl | trivial)), (show 243 < nc by omega), q.1⟩, ⟨q.2.1, fun c1 => ⟨⟨Kx1_0, (show x1 < nc by omega)⟩, ⟨⟨Kx1_2, (show x1 + 2 < nc by omega), (q.2.2 c1).1⟩, (q.2.2 c1).2⟩⟩⟩⟩⟩⟩
set_option maxRecDepth 100000 in
theorem go_X3_exchange_50 {nc : Nat} {C : tf_C} {Q : tf_Q} {h : LH} (hn : 270 ≤ nc) {x1 : Nat} {x2 : Int32} {x3 : Int32} (Kx1_0 : tf_K x1 = 0) (q : (vp_in x2 21) ∧ lx_X3_exchange nc C Q 56 [.ref (241), .ref (x1), .int (x2), .int (x3), tf_z, tf_z] [.int (h.1 (x1 + 3) (x2 : Int32).toNatClampNeg)] h) : lx_X3_exchange nc C Q 50 [.ref (241), .ref (x1), .int (x2), .int (x3), tf_z, tf_z] [] h := by
  obtain ⟨Bx1, ⟨Kx1_1, Kx1_2, Kx1_3, Kx1_4, Kx1_5, Kx1_6, Kx1_7, Kx1_8, Kx1_9, Kx1_10, Kx1_11, Kx1_12, Kx1_13, Kx1_14⟩, ⟨Nx1_1, Nx1_2, Nx1_3, Nx1_4, Nx1_5, Nx1_6, Nx1_7, Nx1_8, Nx1_9, Nx1_10, Nx1_12, Nx1_13, Nx1_14⟩⟩ := tn_net Kx1_0
  refine tf_LW_go ?_
  show (tf_K x1 = 0 ∧ x1 < nc) ∧ (tf_K (tf_R x1 5) = 8 ∧ (tf_R x1 5) < nc ∧ vp_in x2 (tf_N (tf_R x1 5))) ∧ lx_X3_exchange nc C Q 56 [.ref (241), .ref (x1), .int (x2), .int (x3), tf_z, tf_z] [.int (h.1 (tf_R x1 5) (x2 : Int32).toNatClampNeg)] h
  try simp only [(show tf_R x1 5 = x1 + 3 by rw [tn_R0 Kx1_0]; try omega), Nx1_3]
  exact ⟨⟨Kx1_0, (show x1 < nc by omega)⟩, ⟨⟨Kx1_3, (show x1 + 3 < nc by omega), q.1⟩, q.2⟩⟩
set_option maxRecDepth 100000 in
theorem go_X3_exchange_56 {nc : Nat} {C : tf_C} {Q : tf_Q} {h : LH} (hn : 270 ≤ nc) {x1 : Nat} {x2 : Int32} {x3 : Int32} {y0 : Int32} (Kx1_0 : tf_K x1 = 0) (q : (vp_in (h.1 241 5) 8) ∧ ((h.1 243 (h.1 241 5 : Int32).toNatClampNeg) = (0 : Int32) → lx_X3_exchange nc C Q 79 [.ref (241), .ref (x1), .int (x2), .int (x3), .int (y0), tf_z] [] h) ∧ (¬ (h.1 243 (h.1 241 5 : Int32).toNatClampNeg) = (0 : Int32) → (vp_in x2 21) ∧ lx_X3_exchange nc C Q 85 [.ref (241), .ref (x1), .int (x2), .int (x3), .int (y0), tf_z] [.int (h.1 (x1 + 3) (x2 : Int32).toNatClampNeg)] h)) : lx_X3_exchange nc C Q 56 [.ref (241), .ref (x1), .int (x2), .int (x3), tf_z, tf_z] [.int (y0)] h := by
  obtain ⟨Bx1, ⟨Kx1_1, Kx1_2, Kx1_3, Kx1_4, Kx1_5, Kx1_6, Kx1_7, Kx1_8, Kx1_9, Kx1_10, Kx1_11, Kx1_12, Kx1_13, Kx1_14⟩, ⟨Nx1_1, Nx1_2, Nx1_3, Nx1_4, Nx1_5, Nx1_6, Nx1_7, Nx1_8, Nx1_9, Nx1_10, Nx1_12, Nx1_13, Nx1_14⟩⟩ := tn_net Kx1_0
  refine tf_LW_go ?_
  show (tf_K 241 = 2 ∧ 241 < nc) ∧ (tf_K 241 = 2 ∧ 241 < nc) ∧ ((tf_K 243 = 10 ∨ tf_K 243 = 11) ∧ 243 < nc ∧ vp_in (h.1 241 5) 8) ∧ ((h.1 243 (h.1 241 5 : Int32).toNatClampNeg) = (0 : Int32) → lx_X3_exchange nc C Q 79 [.ref (241), .ref (x1), .int (x2), .int (x3), .int (y0), tf_z] [] h) ∧ (¬ (h.1 243 (h.1 241 5 : Int32).toNatClampNeg) = (0 : Int32) → (tf_K x1 = 0 ∧ x1 < nc) ∧ (tf_K (tf_R x1 5) = 8 ∧ (tf_R x1 5) < nc ∧ vp_in x2 (tf_N (tf_R x1 5))) ∧ lx_X3_exchange nc C Q 85 [.ref (241), .ref (x1), .int (x2), .int (x3), .int (y0), tf_z] [.int (h.1 (tf_R x1 5) (x2 : Int32).toNatClampNeg)] h)
  try simp only [(show tf_R x1 5 = x1 + 3 by rw [tn_R0 Kx1_0]; try omega), Nx1_3]
  exact ⟨⟨(by first | rfl | trivial), (show 241 < nc by omega)⟩, ⟨⟨(by first | rfl | trivial), (show 241 < nc by omega)⟩, ⟨⟨(Or.inr (by first | rfl | trivial)), (show 243 < nc by omega), q.1⟩, ⟨q.2.1, fun c1 => ⟨⟨Kx1_0, (show x1 < nc by omega)⟩, ⟨⟨Kx1_3, (show x1 + 3 < nc by omega), (q.2.2 c1).1⟩, (q.2.2 c1).2⟩⟩⟩⟩⟩⟩
set_option maxRecDepth 100000 in
theorem go_X3_exchange_79 {nc : Nat} {C : tf_C} {Q : tf_Q} {h : LH} (hn : 270 ≤ nc) {x1 : Nat} {x2 : Int32} {x3 : Int32} {x4 : Int32} (Kx1_0 : tf_K x1 = 0) (q : (vp_in x2 21) ∧ lx_X3_exchange nc C Q 85 [.ref (241), .ref (x1), .int (x2), .int (x3), .int (x4), tf_z] [.int (h.1 (x1 + 2) (x2 : Int32).toNatClampNeg)] h) : lx_X3_exchange nc C Q 79 [.ref (241), .ref (x1), .int (x2), .int (x3), .int (x4), tf_z] [] h := by
  obtain ⟨Bx1, ⟨Kx1_1, Kx1_2, Kx1_3, Kx1_4, Kx1_5, Kx1_6, Kx1_7, Kx1_8, Kx1_9, Kx1_10, Kx1_11, Kx1_12, Kx1_13, Kx1_14⟩, ⟨Nx1_1, Nx1_2, Nx1_3, Nx1_4, Nx1_5, Nx1_6, Nx1_7, Nx1_8, Nx1_9, Nx1_10, Nx1_12, Nx1_13, Nx1_14⟩⟩ := tn_net Kx1_0
  refine tf_LW_go ?_
  show (tf_K x1 = 0 ∧ x1 < nc) ∧ (tf_K (tf_R x1 4) = 8 ∧ (tf_R x1 4) < nc ∧ vp_in x2 (tf_N (tf_R x1 4))) ∧ lx_X3_exchange nc C Q 85 [.ref (241), .ref (x1), .int (x2), .int (x3), .int (x4), tf_z] [.int (h.1 (tf_R x1 4) (x2 : Int32).toNatClampNeg)] h
  try simp only [(show tf_R x1 4 = x1 + 2 by rw [tn_R0 Kx1_0]; try omega), Nx1_2]
  exact ⟨⟨Kx1_0, (show x1 < nc by omega)⟩, ⟨⟨Kx1_2, (show x1 + 2 < nc by omega), q.1⟩, q.2⟩⟩
set_option maxRecDepth 100000 in
theorem go_X3_exchange_85 {nc : Nat} {C : tf_C} {Q : tf_Q} {h : LH} (hn : 270 ≤ nc) {x1 : Nat} {x2 : Int32} {x3 : Int32} {x4 : Int32} {y0 : Int32} (Kx1_0 : tf_K x1 = 0) (q : (vp_in x2 21) ∧ (vp_in x3 21) ∧ (((tf_up h.1 (x1 + 7) (x2 : Int32).toNatClampNeg 2) (x1 + 6) (x3 : Int32).toNatClampNeg) = (0 : Int32) → lx_X3_exchange nc C Q 113 [.ref (241), .ref (x1), .int (x2), .int (x3), .int (x4), .int (y0)] [.int (0), .int (x3), .ref (x1 + 7)] (tf_up h.1 (x1 + 7) (x2 : Int32).toNatClampNeg 2, h.2)) ∧ (¬ ((tf_up h.1 (x1 + 7) (x2 : Int32).toNatClampNeg 2) (x1 + 6) (x3 : Int32).toNatClampNeg) = (0 : Int32) → lx_X3_exchange nc C Q 112 [.ref (241), .ref (x1), .int (x2), .int (x3), .int (x4), .int (y0)] [.int (x3), .ref (x1 + 7)] (tf_up h.1 (x1 + 7) (x2 : Int32).toNatClampNeg 2, h.2))) : lx_X3_exchange nc C Q 85 [.ref (241), .ref (x1), .int (x2), .int (x3), .int (x4), tf_z] [.int (y0)] h := by
  obtain ⟨Bx1, ⟨Kx1_1, Kx1_2, Kx1_3, Kx1_4, Kx1_5, Kx1_6, Kx1_7, Kx1_8, Kx1_9, Kx1_10, Kx1_11, Kx1_12, Kx1_13, Kx1_14⟩, ⟨Nx1_1, Nx1_2, Nx1_3, Nx1_4, Nx1_5, Nx1_6, Nx1_7, Nx1_8, Nx1_9, Nx1_10, Nx1_12, Nx1_13, Nx1_14⟩⟩ := tn_net Kx1_0
  refine tf_LW_go ?_
  show (tf_K x1 = 0 ∧ x1 < nc) ∧ (tf_K (tf_R x1 9) = 8 ∧ (tf_R x1 9) < nc ∧ vp_in x2 (tf_N (tf_R x1 9))) ∧ (tf_K x1 = 0 ∧ x1 < nc) ∧ (tf_K x1 = 0 ∧ x1 < nc) ∧ (tf_K (tf_R x1 8) = 8 ∧ (tf_R x1 8) < nc ∧ vp_in x3 (tf_N (tf_R x1 8))) ∧ (((tf_up h.1 (tf_R x1 9) (x2 : Int32).toNatClampNeg 2) (tf_R x1 8) (x3 : Int32).toNatClampNeg) = (0 : Int32) → lx_X3_exchange nc C Q 113 [.ref (241), .ref (x1), .int (x2), .int (x3), .int (x4), .int (y0)] [.int (0), .int (x3), .ref (tf_R x1 9)] (tf_up h.1 (tf_R x1 9) (x2 : Int32).toNatClampNeg 2, h.2)) ∧ (¬ ((tf_up h.1 (tf_R x1 9) (x2 : Int32).toNatClampNeg 2) (tf_R x1 8) (x3 : Int32).toNatClampNeg) = (0 : Int32) → lx_X3_exchange nc C Q 112 [.ref (241), .ref (x1), .int (x2), .int (x3), .int (x4), .int (y0)] [.int (x3), .ref (tf_R x1 9)] (tf_up h.1 (tf_R x1 9) (x2 : Int32).toNatClampNeg 2, h.2))
  try simp only [(show tf_R x1 8 = x1 + 6 by rw [tn_R0 Kx1_0]; try omega), (show tf_R x1 9 = x1 + 7 by rw [tn_R0 Kx1_0]; try omega), Nx1_6, Nx1_7]
  exact ⟨⟨Kx1_0, (show x1 < nc by omega)⟩, ⟨⟨Kx1_7, (show x1 + 7 < nc by omega), q.1⟩, ⟨⟨Kx1_0, (show x1 < nc by omega)⟩, ⟨⟨Kx1_0, (show x1 < nc by omega)⟩, ⟨⟨Kx1_6, (show x1 + 6 < nc by omega), q.2.1⟩, ⟨fun c1 => (q.2.2.1 c1), q.2.2.2⟩⟩⟩⟩⟩⟩
set_option maxRecDepth 100000 in
theorem go_X3_exchange_112 {nc : Nat} {C : tf_C} {Q : tf_Q} {h : LH} (hn : 270 ≤ nc) {x1 : Nat} {x2 : Int32} {x3 : Int32} {x4 : Int32} {x5 : Int32} {y0 ny0 : Nat} {y1 : Int32} (Kx1_0 : tf_K x1 = 0) (Ky0_0 : tf_K y0 = 8) (Ny0_0 : tf_N y0 = ny0) (By0 : y0 < nc) (q : lx_X3_exchange nc C Q 113 [.ref (241), .ref (x1), .int (x2), .int (x3), .int (x4), .int (x5)] [.int (1), .int (y1), .ref (y0)] h) : lx_X3_exchange nc C Q 112 [.ref (241), .ref (x1), .int (x2), .int (x3), .int (x4), .int (x5)] [.int (y1), .ref (y0)] h := by
  obtain ⟨Bx1, ⟨Kx1_1, Kx1_2, Kx1_3, Kx1_4, Kx1_5, Kx1_6, Kx1_7, Kx1_8, Kx1_9, Kx1_10, Kx1_11, Kx1_12, Kx1_13, Kx1_14⟩, ⟨Nx1_1, Nx1_2, Nx1_3, Nx1_4, Nx1_5, Nx1_6, Nx1_7, Nx1_8, Nx1_9, Nx1_10, Nx1_12, Nx1_13, Nx1_14⟩⟩ := tn_net Kx1_0
  refine tf_LW_go ?_
  show lx_X3_exchange nc C Q 113 [.ref (241), .ref (x1), .int (x2), .int (x3), .int (x4), .int (x5)] [.int (1), .int (y1), .ref (y0)] h
  try simp only [Ny0_0]
  exact q
set_option maxRecDepth 100000 in
theorem go_X3_exchange_113 {nc : Nat} {C : tf_C} {Q : tf_Q} {h : LH} (hn : 270 ≤ nc) {x1 : Nat} {x2 : Int32} {x3 : Int32} {x4 : Int32} {x5 : Int32} {y0 ny0 : Nat} {y1 : Int32} {y2 : Int32} (Kx1_0 : tf_K x1 = 0) (Ky0_0 : tf_K y0 = 8) (Ny0_0 : tf_N y0 = ny0) (By0 : y0 < nc) (q : (vp_in y1 ny0) ∧ (((tf_up h.1 y0 (y1 : Int32).toNatClampNeg y2) 241 5) ≤ ((tf_up h.1 y0 (y1 : Int32).toNatClampNeg y2) 241 6) → lx_X3_exchange nc C Q 138 [.ref (241), .ref (x1), .int (x2), .int (x3), .int (x4), .int (x5)] [] (tf_up h.1 y0 (y1 : Int32).toNatClampNeg y2, h.2)) ∧ (¬ ((tf_up h.1 y0 (y1 : Int32).toNatClampNeg y2) 241 5) ≤ ((tf_up h.1 y0 (y1 : Int32).toNatClampNeg y2) 241 6) → C 143 [.ref (x1), .int (x4), .int (x5), .int (x2), .int (x3)] (tf_up h.1 y0 (y1 : Int32).toNatClampNeg y2, h.2) (fun r g => lx_X3_exchange nc C Q 135 [.ref (241), .ref (x1), .int (x2), .int (x3), .int (x4), .int (x5)] [] g))) : lx_X3_exchange nc C Q 113 [.ref (241), .ref (x1), .int (x2), .int (x3), .int (x4), .int (x5)] [.int (y2), .int (y1), .ref (y0)] h := by
  obtain ⟨Bx1, ⟨Kx1_1, Kx1_2, Kx1_3, Kx1_4, Kx1_5, Kx1_6, Kx1_7, Kx1_8, Kx1_9, Kx1_10, Kx1_11, Kx1_12, Kx1_13, Kx1_14⟩, ⟨Nx1_1, Nx1_2, Nx1_3, Nx1_4, Nx1_5, Nx1_6, Nx1_7, Nx1_8, Nx1_9, Nx1_10, Nx1_12, Nx1_13, Nx1_14⟩⟩ := tn_net Kx1_0
  refine tf_LW_go ?_
  show (tf_K y0 = 8 ∧ y0 < nc ∧ vp_in y1 (tf_N y0)) ∧ (tf_K 241 = 2 ∧ 241 < nc) ∧ (tf_K 241 = 2 ∧ 241 < nc) ∧ (((tf_up h.1 y0 (y1 : Int32).toNatClampNeg y2) 241 5) ≤ ((tf_up h.1 y0 (y1 : Int32).toNatClampNeg y2) 241 6) → lx_X3_exchange nc C Q 138 [.ref (241), .ref (x1), .int (x2), .int (x3), .int (x4), .int (x5)] [] (tf_up h.1 y0 (y1 : Int32).toNatClampNeg y2, h.2)) ∧ (¬ ((tf_up h.1 y0 (y1 : Int32).toNatClampNeg y2) 241 5) ≤ ((tf_up h.1 y0 (y1 : Int32).toNatClampNeg y2) 241 6) → 5 ≤ 5 ∧ 0 ≤ 8 ∧ C 143 [.ref (x1), .int (x4), .int (x5), .int (x2), .int (x3)] (tf_up h.1 y0 (y1 : Int32).toNatClampNeg y2, h.2) (fun r g => lx_X3_exchange nc C Q 135 [.ref (241), .ref (x1), .int (x2), .int (x3), .int (x4), .int (x5)] [] g))
  try simp only [Ny0_0]
  exact ⟨⟨Ky0_0, (show y0 < nc by omega), q.1⟩, ⟨⟨(by first | rfl | trivial), (show 241 < nc by omega)⟩, ⟨⟨(by first | rfl | trivial), (show 241 < nc by omega)⟩, ⟨q.2.1, fun c1 => ⟨Nat.le_of_ble_eq_true rfl, Nat.le_of_ble_eq_true rfl, (q.2.2 c1)⟩⟩⟩⟩⟩
set_option maxRecDepth 100000 in
theorem go_X3_exchange_135 {nc : Nat} {C : tf_C} {Q : tf_Q} {h : LH} (hn : 270 ≤ nc) {x1 : Nat} {x2 : Int32} {x3 : Int32} {x4 : Int32} {x5 : Int32} (Kx1_0 : tf_K x1 = 0) (q : lx_X3_exchange nc C Q 148 [.ref (241), .ref (x1), .int (x2), .int (x3), .int (x4), .int (x5)] [] h) : lx_X3_exchange nc C Q 135 [.ref (241), .ref (x1), .int (x2), .int (x3), .int (x4), .int (x5)] [] h := by
  obtain ⟨Bx1, ⟨Kx1_1, Kx1_2, Kx1_3, Kx1_4, Kx1_5, Kx1_6, Kx1_7, Kx1_8, Kx1_9, Kx1_10, Kx1_11, Kx1_12, Kx1_13, Kx1_14⟩, ⟨Nx1_1, Nx1_2, Nx1_3, Nx1_4, Nx1_5, Nx1_6, Nx1_7, Nx1_8, Nx1_9, Nx1_10, Nx1_12, Nx1_13, Nx1_14⟩⟩ := tn_net Kx1_0
  refine tf_LW_go ?_
  exact q
set_option maxRecDepth 100000 in
theorem go_X3_exchange_138 {nc : Nat} {C : tf_C} {Q : tf_Q} {h : LH} (hn : 270 ≤ nc) {x1 : Nat} {x2 : Int32} {x3 : Int32} {x4 : Int32} {x5 : Int32} (Kx1_0 : tf_K x1 = 0) (q : C 143 [.ref (x1), .int (x5), .int (x4), .int (x2), .int (x3)] h (fun r g => lx_X3_exchange nc C Q 148 [.ref (241), .ref (x1), .int (x2), .int (x3), .int (x4), .int (x5)] [] g)) : lx_X3_exchange nc C Q 138 [.ref (241), .ref (x1), .int (x2), .int (x3), .int (x4), .int (x5)] [] h := by
  obtain ⟨Bx1, ⟨Kx1_1, Kx1_2, Kx1_3, Kx1_4, Kx1_5, Kx1_6, Kx1_7, Kx1_8, Kx1_9, Kx1_10, Kx1_11, Kx1_12, Kx1_13, Kx1_14⟩, ⟨Nx1_1, Nx1_2, Nx1_3, Nx1_4, Nx1_5, Nx1_6, Nx1_7, Nx1_8, Nx1_9, Nx1_10, Nx1_12, Nx1_13, Nx1_14⟩⟩ := tn_net Kx1_0
  refine tf_LW_go ?_
  exact ⟨Nat.le_of_ble_eq_true rfl, Nat.le_of_ble_eq_true rfl, q⟩
set_option maxRecDepth 100000 in
theorem go_X3_exchange_148 {nc : Nat} {C : tf_C} {Q : tf_Q} {h : LH} (hn : 270 ≤ nc) {x1 : Nat} {x2 : Int32} {x3 : Int32} {x4 : Int32} {x5 : Int32} (Kx1_0 : tf_K x1 = 0) (q : C 130 [.ref (x1)] h (fun r g => lx_X3_exchange nc C Q 152 [.ref (241), .ref (x1), .int (x2), .int (x3), .int (x4), .int (x5)] [] g)) : lx_X3_exchange nc C Q 148 [.ref (241), .ref (x1), .int (x2), .int (x3), .int (x4), .int (x5)] [] h := by
  obtain ⟨Bx1, ⟨Kx1_1, Kx1_2, Kx1_3, Kx1_4, Kx1_5, Kx1_6, Kx1_7, Kx1_8, Kx1_9, Kx1_10, Kx1_11, Kx1_12, Kx1_13, Kx1_14⟩, ⟨Nx1_1, Nx1_2, Nx1_3, Nx1_4, Nx1_5, Nx1_6, Nx1_7, Nx1_8, Nx1_9, Nx1_10, Nx1_12, Nx1_13, Nx1_14⟩⟩ := tn_net Kx1_0
  refine tf_LW_go ?_
  exact ⟨Nat.le_of_ble_eq_true rfl, Nat.le_of_ble_eq_true rfl, q⟩
set_option maxRecDepth 100000 in
theorem go_X3_exchange_152 {nc : Nat} {C : tf_C} {Q : tf_Q} {h : LH} (hn : 270 ≤ nc) {x1 : Nat} {x2 : Int32} {x3 : Int32} {x4 : Int32} {x5 : Int32} (Kx1_0 : tf_K x1 = 0) (q : Q tf_z h) : lx_X3_exchange nc C Q 152 [.ref (241), .ref (x1), .int (x2), .int (x3), .int (x4), .int (x5)] [] h := by
  obtain ⟨Bx1, ⟨Kx1_1, Kx1_2, Kx1_3, Kx1_4, Kx1_5, Kx1_6, Kx1_7, Kx1_8, Kx1_9, Kx1_10, Kx1_11, Kx1_12, Kx1_13, Kx1_14⟩, ⟨Nx1_1, Nx1_2, Nx1_3, Nx1_4, Nx1_5, Nx1_6, Nx1_7, Nx1_8, Nx1_9, Nx1_10, Nx1_12, Nx1_13, Nx1_14⟩⟩ := tn_net Kx1_0
  refine tf_LW_go ?_
  exact ⟨(by first | rfl | trivial), q⟩
abbrev lx_X3_meeting (nc : Nat) (C : tf_C) (Q : tf_Q) : tf_X := tf_LW nc C (tf_F 2) (tf_M 2) (tf_I 2) (tf_Eh 166) 1 tb_X3_meeting Q
set_option maxRecDepth 100000 in
theorem go_X3_meeting_0 {nc : Nat} {C : tf_C} {Q : tf_Q} {h : LH} (hn : 270 ≤ nc) {x0 : Nat} {x1 : Int32} {x2 : Int32} (Kx0_0 : tf_K x0 = 0) (q : lx_X3_meeting nc C Q 5 [.ref (x0), .int (x1), .int (x2), .int (x1), .int (0)] [] h) : lx_X3_meeting nc C Q 0 [.ref (x0), .int (x1), .int (x2), tf_z, tf_z] [] h := by
  obtain ⟨Bx0, ⟨Kx0_1, Kx0_2, Kx0_3, Kx0_4, Kx0_5, Kx0_6, Kx0_7, Kx0_8, Kx0_9, Kx0_10, Kx0_11, Kx0_12, Kx0_13, Kx0_14⟩, ⟨Nx0_1, Nx0_2, Nx0_3, Nx0_4, Nx0_5, Nx0_6, Nx0_7, Nx0_8, Nx0_9, Nx0_10, Nx0_12, Nx0_13, Nx0_14⟩⟩ := tn_net Kx0_0
  refine tf_LW_go ?_
  exact q
theorem en_X3_meeting {nc d : Nat} {Q : tf_Q} {h : LH} (hn : 270 ≤ nc) {x0 : Nat} {x1 : Int32} {x2 : Int32} (Kx0_0 : tf_K x0 = 0) (q : lx_X3_meeting nc (tf_Cd nc d) Q 0 [.ref (x0), .int (x1), .int (x2), tf_z, tf_z] [] h) : tf_Cd nc (d + 1) 166 [.ref (x0), .int (x1), .int (x2)] h Q := by
  obtain ⟨Bx0, ⟨Kx0_1, Kx0_2, Kx0_3, Kx0_4, Kx0_5, Kx0_6, Kx0_7, Kx0_8, Kx0_9, Kx0_10, Kx0_11, Kx0_12, Kx0_13, Kx0_14⟩, ⟨Nx0_1, Nx0_2, Nx0_3, Nx0_4, Nx0_5, Nx0_6, Nx0_7, Nx0_8, Nx0_9, Nx0_10, Nx0_12, Nx0_13, Nx0_14⟩⟩ := tn_net Kx0_0
  exact ⟨⟨Nat.le_of_ble_eq_true rfl, Or.inl rfl⟩, q⟩
set_option maxRecDepth 100000 in
theorem go_X3_meeting_5 {nc : Nat} {C : tf_C} {Q : tf_Q} {h : LH} (hn : 270 ≤ nc) {x0 : Nat} {x1 : Int32} {x2 : Int32} {x3 : Int32} {x4 : Int32} (Kx0_0 : tf_K x0 = 0) (q : ((8 : Int32) ≤ x4 → lx_X3_meeting nc C Q 42 [.ref (x0), .int (x1), .int (x2), .int (x3), .int (x4)] [] h) ∧ (¬ (8 : Int32) ≤ x4 → (x3 = (7 : Int32) → lx_X3_meeting nc C Q 42 [.ref (x0), .int (x1), .int (x2), .int (x3), .int (x4)] [] h) ∧ (¬ x3 = (7 : Int32) → C 137 [.ref (x0), .int (x2), .int (x3)] h (fun r g => lx_X3_meeting nc C Q 24 [.ref (x0), .int (x1), .int (x2), .int (x3), .int (x4)] (r :: []) g)))) : lx_X3_meeting nc C Q 5 [.ref (x0), .int (x1), .int (x2), .int (x3), .int (x4)] [] h := by
  obtain ⟨Bx0, ⟨Kx0_1, Kx0_2, Kx0_3, Kx0_4, Kx0_5, Kx0_6, Kx0_7, Kx0_8, Kx0_9, Kx0_10, Kx0_11, Kx0_12, Kx0_13, Kx0_14⟩, ⟨Nx0_1, Nx0_2, Nx0_3, Nx0_4, Nx0_5, Nx0_6, Nx0_7, Nx0_8, Nx0_9, Nx0_10, Nx0_12, Nx0_13, Nx0_14⟩⟩ := tn_net Kx0_0
  refine tf_LW_go ?_
  exact ⟨q.1, fun c2 => ⟨(q.2 c2).1, fun c1 => ⟨Nat.le_of_ble_eq_true rfl, Nat.le_of_ble_eq_true rfl, ((q.2 c2).2 c1)⟩⟩⟩
set_option maxRecDepth 100000 in
theorem go_X3_meeting_24 {nc : Nat} {C : tf_C} {Q : tf_Q} {h : LH} (hn : 270 ≤ nc) {x0 : Nat} {x1 : Int32} {x2 : Int32} {x3 : Int32} {x4 : Int32} {y0 : Int32} (Kx0_0 : tf_K x0 = 0) (q : (y0 = (0 : Int32) → lx_X3_meeting nc C Q 29 [.ref (x0), .int (x1), .int (x2), .int (x3), .int (x4)] [] h) ∧ (¬ y0 = (0 : Int32) → Q (.int (x3)) h)) : lx_X3_meeting nc C Q 24 [.ref (x0), .int (x1), .int (x2), .int (x3), .int (x4)] [.int (y0)] h := by
  obtain ⟨Bx0, ⟨Kx0_1, Kx0_2, Kx0_3, Kx0_4, Kx0_5, Kx0_6, Kx0_7, Kx0_8, Kx0_9, Kx0_10, Kx0_11, Kx0_12, Kx0_13, Kx0_14⟩, ⟨Nx0_1, Nx0_2, Nx0_3, Nx0_4, Nx0_5, Nx0_6, Nx0_7, Nx0_8, Nx0_9, Nx0_10, Nx0_12, Nx0_13, Nx0_14⟩⟩ := tn_net Kx0_0
  refine tf_LW_go ?_
  exact ⟨q.1, fun c1 => ⟨(by first | trivial | rfl), (q.2 c1)⟩⟩
set_option maxRecDepth 100000 in
theorem go_X3_meeting_29 {nc : Nat} {C : tf_C} {Q : tf_Q} {h : LH} (hn : 270 ≤ nc) {x0 : Nat} {x1 : Int32} {x2 : Int32} {x3 : Int32} {x4 : Int32} (Kx0_0 : tf_K x0 = 0) (q : (vp_in x3 7) ∧ lx_X3_meeting nc C Q 5 [.ref (x0), .int (x1), .int (x2), .int (h.1 (x0 + 8) (x3 : Int32).toNatClampNeg), .int (x4 + 1)] [] h) : lx_X3_meeting nc C Q 29 [.ref (x0), .int (x1), .int (x2), .int (x3), .int (x4)] [] h := by
  obtain ⟨Bx0, ⟨Kx0_1, Kx0_2, Kx0_3, Kx0_4, Kx0_5, Kx0_6, Kx0_7, Kx0_8, Kx0_9, Kx0_10, Kx0_11, Kx0_12, Kx0_13, Kx0_14⟩, ⟨Nx0_1, Nx0_2, Nx0_3, Nx0_4, Nx0_5, Nx0_6, Nx0_7, Nx0_8, Nx0_9, Nx0_10, Nx0_12, Nx0_13, Nx0_14⟩⟩ := tn_net Kx0_0
  refine tf_LW_go ?_
  show (tf_K x0 = 0 ∧ x0 < nc) ∧ (tf_K (tf_R x0 10) = 8 ∧ (tf_R x0 10) < nc ∧ vp_in x3 (tf_N (tf_R x0 10))) ∧ lx_X3_meeting nc C Q 5 [.ref (x0), .int (x1), .int (x2), .int (h.1 (tf_R x0 10) (x3 : Int32).toNatClampNeg), .int (x4 + 1)] [] h
  try simp only [(show tf_R x0 10 = x0 + 8 by rw [tn_R0 Kx0_0]; try omega), Nx0_8]
  exact ⟨⟨Kx0_0, (show x0 < nc by omega)⟩, ⟨⟨Kx0_8, (show x0 + 8 < nc by omega), q.1⟩, q.2⟩⟩
set_option maxRecDepth 100000 in
theorem go_X3_meeting_42 {nc : Nat} {C : tf_C} {Q : tf_Q} {h : LH} (hn : 270 ≤ nc) {x0 : Nat} {x1 : Int32} {x2 : Int32} {x3 : Int32} {x4 : Int32} (Kx0_0 : tf_K x0 = 0) (q : Q (.int (7)) h) : lx_X3_meeting nc C Q 42 [.ref (x0), .int (x1), .int (x2), .int (x3), .int (x4)] [] h := by
  obtain ⟨Bx0, ⟨Kx0_1, Kx0_2, Kx0_3, Kx0_4, Kx0_5, Kx0_6, Kx0_7, Kx0_8, Kx0_9, Kx0_10, Kx0_11, Kx0_12, Kx0_13, Kx0_14⟩, ⟨Nx0_1, Nx0_2, Nx0_3, Nx0_4, Nx0_5, Nx0_6, Nx0_7, Nx0_8, Nx0_9, Nx0_10, Nx0_12, Nx0_13, Nx0_14⟩⟩ := tn_net Kx0_0
  refine tf_LW_go ?_
  exact ⟨(by first | trivial | rfl), q⟩
abbrev lx_X3_climb (nc : Nat) (C : tf_C) (Q : tf_Q) : tf_X := tf_LW nc C (tf_F 2) (tf_M 2) (tf_I 2) (tf_Eh 167) 0 tb_X3_climb Q
set_option maxRecDepth 100000 in
theorem go_X3_climb_0 {nc : Nat} {C : tf_C} {Q : tf_Q} {h : LH} (hn : 270 ≤ nc) {x1 : Nat} {x2 : Int32} (Kx1_0 : tf_K x1 = 0) (q : lx_X3_climb nc C Q 5 [.ref (241), .ref (x1), .int (x2), .int (x2), .int (0), tf_z] [] h) : lx_X3_climb nc C Q 0 [.ref (241), .ref (x1), .int (x2), tf_z, tf_z, tf_z] [] h := by
  obtain ⟨Bx1, ⟨Kx1_1, Kx1_2, Kx1_3, Kx1_4, Kx1_5, Kx1_6, Kx1_7, Kx1_8, Kx1_9, Kx1_10, Kx1_11, Kx1_12, Kx1_13, Kx1_14⟩, ⟨Nx1_1, Nx1_2, Nx1_3, Nx1_4, Nx1_5, Nx1_6, Nx1_7, Nx1_8, Nx1_9, Nx1_10, Nx1_12, Nx1_13, Nx1_14⟩⟩ := tn_net Kx1_0
  refine tf_LW_go ?_
  exact q
theorem en_X3_climb {nc d : Nat} {Q : tf_Q} {h : LH} (hn : 270 ≤ nc) {x1 : Nat} {x2 : Int32} (Kx1_0 : tf_K x1 = 0) (q : lx_X3_climb nc (tf_Cd nc d) Q 0 [.ref (241), .ref (x1), .int (x2), tf_z, tf_z, tf_z] [] h) : tf_Cd nc (d + 1) 167 [.ref (241), .ref (x1), .int (x2)] h Q := by
  obtain ⟨Bx1, ⟨Kx1_1, Kx1_2, Kx1_3, Kx1_4, Kx1_5, Kx1_6, Kx1_7, Kx1_8, Kx1_9, Kx1_10, Kx1_11, Kx1_12, Kx1_13, Kx1_14⟩, ⟨Nx1_1, Nx1_2, Nx1_3, Nx1_4, Nx1_5, Nx1_6, Nx1_7, Nx1_8, Nx1_9, Nx1_10, Nx1_12, Nx1_13, Nx1_14⟩⟩ := tn_net Kx1_0
  exact ⟨⟨Nat.le_of_ble_eq_true rfl, Or.inr ⟨rfl, (show 241 < nc by omega)⟩⟩, q⟩
set_option maxRecDepth 100000 in
theorem go_X3_climb_5 {nc : Nat} {C : tf_C} {Q : tf_Q} {h : LH} (hn : 270 ≤ nc) {x1 : Nat} {x2 : Int32} {x3 : Int32} {x4 : Int32} {x5 : Value} (Kx1_0 : tf_K x1 = 0) (q : ((8 : Int32) ≤ x4 → lx_X3_climb nc C Q 69 [.ref (241), .ref (x1), .int (x2), .int (x3), .int (x4), x5] [] h) ∧ (¬ (8 : Int32) ≤ x4 → (x3 = (h.1 241 3) → lx_X3_climb nc C Q 69 [.ref (241), .ref (x1), .int (x2), .int (x3), .int (x4), x5] [] h) ∧ (¬ x3 = (h.1 241 3) → (x3 = (7 : Int32) → lx_X3_climb nc C Q 69 [.ref (241), .ref (x1), .int (x2), .int (x3), .int (x4), x5] [] h) ∧ (¬ x3 = (7 : Int32) → (vp_in x3 7) ∧ (vp_in (h.1 (x1 + 9) (x3 : Int32).toNatClampNeg) 21) ∧ ((h.1 (x1 + 2) (h.1 (x1 + 9) (x3 : Int32).toNatClampNeg : Int32).toNatClampNeg) = x3 → lx_X3_climb nc C Q 53 [.ref (241), .ref (x1), .int (x2), .int (x3), .int (x4), .int (h.1 (x1 + 9) (x3 : Int32).toNatClampNeg)] [.int (1), .int (h.1 (x1 + 9) (x3 : Int32).toNatClampNeg), .ref (241)] h) ∧ (¬ (h.1 (x1 + 2) (h.1 (x1 + 9) (x3 : Int32).toNatClampNeg : Int32).toNatClampNeg) = x3 → lx_X3_climb nc C Q 52 [.ref (241), .ref (x1), .int (x2), .int (x3), .int (x4), .int (h.1 (x1 + 9) (x3 : Int32).toNatClampNeg)] [.int (h.1 (x1 + 9) (x3 : Int32).toNatClampNeg), .ref (241)] h))))) : lx_X3_climb nc C Q 5 [.ref (241), .ref (x1), .int (x2), .int (x3), .int (x4), x5] [] h := by
  obtain ⟨Bx1, ⟨Kx1_1, Kx1_2, Kx1_3, Kx1_4, Kx1_5, Kx1_6, Kx1_7, Kx1_8, Kx1_9, Kx1_10, Kx1_11, Kx1_12, Kx1_13, Kx1_14⟩, ⟨Nx1_1, Nx1_2, Nx1_3, Nx1_4, Nx1_5, Nx1_6, Nx1_7, Nx1_8, Nx1_9, Nx1_10, Nx1_12, Nx1_13, Nx1_14⟩⟩ := tn_net Kx1_0
  refine tf_LW_go ?_
  show ((8 : Int32) ≤ x4 → lx_X3_climb nc C Q 69 [.ref (241), .ref (x1), .int (x2), .int (x3), .int (x4), x5] [] h) ∧ (¬ (8 : Int32) ≤ x4 → (tf_K 241 = 2 ∧ 241 < nc) ∧ (x3 = (h.1 241 3) → lx_X3_climb nc C Q 69 [.ref (241), .ref (x1), .int (x2), .int (x3), .int (x4), x5] [] h) ∧ (¬ x3 = (h.1 241 3) → (x3 = (7 : Int32) → lx_X3_climb nc C Q 69 [.ref (241), .ref (x1), .int (x2), .int (x3), .int (x4), x5] [] h) ∧ (¬ x3 = (7 : Int32) → (tf_K x1 = 0 ∧ x1 < nc) ∧ (tf_K (tf_R x1 11) = 8 ∧ (tf_R x1 11) < nc ∧ vp_in x3 (tf_N (tf_R x1 11))) ∧ (tf_K x1 = 0 ∧ x1 < nc) ∧ (tf_K (tf_R x1 4) = 8 ∧ (tf_R x1 4) < nc ∧ vp_in (h.1 (tf_R x1 11) (x3 : Int32).toNatClampNeg) (tf_N (tf_R x1 4))) ∧ ((h.1 (tf_R x1 4) (h.1 (tf_R x1 11) (x3 : Int32).toNatClampNeg : Int32).toNatClampNeg) = x3 → lx_X3_climb nc C Q 53 [.ref (241), .ref (x1), .int (x2), .int (x3), .int (x4), .int (h.1 (tf_R x1 11) (x3 : Int32).toNatClampNeg)] [.int (1), .int (h.1 (tf_R x1 11) (x3 : Int32).toNatClampNeg), .ref (241)] h) ∧ (¬ (h.1 (tf_R x1 4) (h.1 (tf_R x1 11) (x3 : Int32).toNatClampNeg : Int32).toNatClampNeg) = x3 → lx_X3_climb nc C Q 52 [.ref (241), .ref (x1), .int (x2), .int (x3), .int (x4), .int (h.1 (tf_R x1 11) (x3 : Int32).toNatClampNeg)] [.int (h.1 (tf_R x1 11) (x3 : Int32).toNatClampNeg), .ref (241)] h))))
  try simp only [(show tf_R x1 4 = x1 + 2 by rw [tn_R0 Kx1_0]; try omega), (show tf_R x1 11 = x1 + 9 by rw [tn_R0 Kx1_0]; try omega), Nx1_2, Nx1_9]
  exact ⟨q.1, fun c4 => ⟨⟨(by first | rfl | trivial), (show 241 < nc by omega)⟩, ⟨(q.2 c4).1, fun c3 => ⟨((q.2 c4).2 c3).1, fun c2 => ⟨⟨Kx1_0, (show x1 < nc by omega)⟩, ⟨⟨Kx1_9, (show x1 + 9 < nc by omega), (((q.2 c4).2 c3).2 c2).1⟩, ⟨⟨Kx1_0, (show x1 < nc by omega)⟩, ⟨⟨Kx1_2, (show x1 + 2 < nc by omega), (((q.2 c4).2 c3).2 c2).2.1⟩, ⟨fun c1 => ((((q.2 c4).2 c3).2 c2).2.2.1 c1), (((q.2 c4).2 c3).2 c2).2.2.2⟩⟩⟩⟩⟩⟩⟩⟩⟩
set_option maxRecDepth 100000 in
theorem go_X3_climb_52 {nc : Nat} {C : tf_C} {Q : tf_Q} {h : LH} (hn : 270 ≤ nc) {x1 : Nat} {x2 : Int32} {x3 : Int32} {x4 : Int32} {x5 : Int32} {y1 : Int32} (Kx1_0 : tf_K x1 = 0) (q : lx_X3_climb nc C Q 53 [.ref (241), .ref (x1), .int (x2), .int (x3), .int (x4), .int (x5)] [.int (0), .int (y1), .ref (241)] h) : lx_X3_climb nc C Q 52 [.ref (241), .ref (x1), .int (x2), .int (x3), .int (x4), .int (x5)] [.int (y1), .ref (241)] h := by
  obtain ⟨Bx1, ⟨Kx1_1, Kx1_2, Kx1_3, Kx1_4, Kx1_5, Kx1_6, Kx1_7, Kx1_8, Kx1_9, Kx1_10, Kx1_11, Kx1_12, Kx1_13, Kx1_14⟩, ⟨Nx1_1, Nx1_2, Nx1_3, Nx1_4, Nx1_5, Nx1_6, Nx1_7, Nx1_8, Nx1_9, Nx1_10, Nx1_12, Nx1_13, Nx1_14⟩⟩ := tn_net Kx1_0
  refine tf_LW_go ?_
  exact q
set_option maxRecDepth 100000 in
theorem go_X3_climb_53 {nc : Nat} {C : tf_C} {Q : tf_Q} {h : LH} (hn : 270 ≤ nc) {x1 : Nat} {x2 : Int32} {x3 : Int32} {x4 : Int32} {x5 : Int32} {y1 : Int32} {y2 : Int32} (Kx1_0 : tf_K x1 = 0) (q : C 169 [.ref (241), .int (y1), .int (y2)] h (fun r g => lx_X3_climb nc C Q 56 [.ref (241), .ref (x1), .int (x2), .int (x3), .int (x4), .int (x5)] [] g)) : lx_X3_climb nc C Q 53 [.ref (241), .ref (x1), .int (x2), .int (x3), .int (x4), .int (x5)] [.int (y2), .int (y1), .ref (241)] h := by
  obtain ⟨Bx1, ⟨Kx1_1, Kx1_2, Kx1_3, Kx1_4, Kx1_5, Kx1_6, Kx1_7, Kx1_8, Kx1_9, Kx1_10, Kx1_11, Kx1_12, Kx1_13, Kx1_14⟩, ⟨Nx1_1, Nx1_2, Nx1_3, Nx1_4, Nx1_5, Nx1_6, Nx1_7, Nx1_8, Nx1_9, Nx1_10, Nx1_12, Nx1_13, Nx1_14⟩⟩ := tn_net Kx1_0
  refine tf_LW_go ?_
  exact ⟨Nat.le_of_ble_eq_true rfl, Nat.le_of_ble_eq_true rfl, q⟩
set_option maxRecDepth 100000 in
theorem go_X3_climb_56 {nc : Nat} {C : tf_C} {Q : tf_Q} {h : LH} (hn : 270 ≤ nc) {x1 : Nat} {x2 : Int32} {x3 : Int32} {x4 : Int32} {x5 : Int32} (Kx1_0 : tf_K x1 = 0) (q : (vp_in x3 7) ∧ lx_X3_climb nc C Q 5 [.ref (241), .ref (x1), .int (x2), .int (h.1 (x1 + 8) (x3 : Int32).toNatClampNeg), .int (x4 + 1), .int (x5)] [] h) : lx_X3_climb nc C Q 56 [.ref (241), .ref (x1), .int (x2), .int (x3), .int (x4), .int (x5)] [] h := by
  obtain ⟨Bx1, ⟨Kx1_1, Kx1_2, Kx1_3, Kx1_4, Kx1_5, Kx1_6, Kx1_7, Kx1_8, Kx1_9, Kx1_10, Kx1_11, Kx1_12, Kx1_13, Kx1_14⟩, ⟨Nx1_1, Nx1_2, Nx1_3, Nx1_4, Nx1_5, Nx1_6, Nx1_7, Nx1_8, Nx1_9, Nx1_10, Nx1_12, Nx1_13, Nx1_14⟩⟩ := tn_net Kx1_0
  refine tf_LW_go ?_
  show (tf_K x1 = 0 ∧ x1 < nc) ∧ (tf_K (tf_R x1 10) = 8 ∧ (tf_R x1 10) < nc ∧ vp_in x3 (tf_N (tf_R x1 10))) ∧ lx_X3_climb nc C Q 5 [.ref (241), .ref (x1), .int (x2), .int (h.1 (tf_R x1 10) (x3 : Int32).toNatClampNeg), .int (x4 + 1), .int (x5)] [] h
  try simp only [(show tf_R x1 10 = x1 + 8 by rw [tn_R0 Kx1_0]; try omega), Nx1_8]
  exact ⟨⟨Kx1_0, (show x1 < nc by omega)⟩, ⟨⟨Kx1_8, (show x1 + 8 < nc by omega), q.1⟩, q.2⟩⟩
set_option maxRecDepth 100000 in
theorem go_X3_climb_69 {nc : Nat} {C : tf_C} {Q : tf_Q} {h : LH} (hn : 270 ≤ nc) {x1 : Nat} {x2 : Int32} {x3 : Int32} {x4 : Int32} {x5 : Value} (Kx1_0 : tf_K x1 = 0) (q : Q tf_z h) : lx_X3_climb nc C Q 69 [.ref (241), .ref (x1), .int (x2), .int (x3), .int (x4), x5] [] h := by
  obtain ⟨Bx1, ⟨Kx1_1, Kx1_2, Kx1_3, Kx1_4, Kx1_5, Kx1_6, Kx1_7, Kx1_8, Kx1_9, Kx1_10, Kx1_11, Kx1_12, Kx1_13, Kx1_14⟩, ⟨Nx1_1, Nx1_2, Nx1_3, Nx1_4, Nx1_5, Nx1_6, Nx1_7, Nx1_8, Nx1_9, Nx1_10, Nx1_12, Nx1_13, Nx1_14⟩⟩ := tn_net Kx1_0
  refine tf_LW_go ?_
  exact ⟨(by first | rfl | trivial), q⟩
abbrev lx_X3_descend (nc : Nat) (C : tf_C) (Q : tf_Q) : tf_X := tf_LW nc C (tf_F 2) (tf_M 2) (tf_I 2) (tf_Eh 168) 0 tb_X3_descend Q
set_option maxRecDepth 100000 in
theorem go_X3_descend_0 {nc : Nat} {C : tf_C} {Q : tf_Q} {h : LH} (hn : 270 ≤ nc) {x1 : Nat} {x2 : Int32} (Kx1_0 : tf_K x1 = 0) (q : C 138 [.ref (x1), .int (x2)] h (fun r g => lx_X3_descend nc C Q 5 [.ref (241), .ref (x1), .int (x2), tf_z, tf_z, tf_z] (r :: []) g)) : lx_X3_descend nc C Q 0 [.ref (241), .ref (x1), .int (x2), tf_z, tf_z, tf_z] [] h := by
  obtain ⟨Bx1, ⟨Kx1_1, Kx1_2, Kx1_3, Kx1_4, Kx1_5, Kx1_6, Kx1_7, Kx1_8, Kx1_9, Kx1_10, Kx1_11, Kx1_12, Kx1_13, Kx1_14⟩, ⟨Nx1_1, Nx1_2, Nx1_3, Nx1_4, Nx1_5, Nx1_6, Nx1_7, Nx1_8, Nx1_9, Nx1_10, Nx1_12, Nx1_13, Nx1_14⟩⟩ := tn_net Kx1_0
  refine tf_LW_go ?_
  exact ⟨Nat.le_of_ble_eq_true rfl, Nat.le_of_ble_eq_true rfl, q⟩
theorem en_X3_descend {nc d : Nat} {Q : tf_Q} {h : LH} (hn : 270 ≤ nc) {x1 : Nat} {x2 : Int32} (Kx1_0 : tf_K x1 = 0) (q : lx_X3_descend nc (tf_Cd nc d) Q 0 [.ref (241), .ref (x1), .int (x2), tf_z, tf_z, tf_z] [] h) : tf_Cd nc (d + 1) 168 [.ref (241), .ref (x1), .int (x2)] h Q := by
  obtain ⟨Bx1, ⟨Kx1_1, Kx1_2, Kx1_3, Kx1_4, Kx1_5, Kx1_6, Kx1_7, Kx1_8, Kx1_9, Kx1_10, Kx1_11, Kx1_12, Kx1_13, Kx1_14⟩, ⟨Nx1_1, Nx1_2, Nx1_3, Nx1_4, Nx1_5, Nx1_6, Nx1_7, Nx1_8, Nx1_9, Nx1_10, Nx1_12, Nx1_13, Nx1_14⟩⟩ := tn_net Kx1_0
  exact ⟨⟨Nat.le_of_ble_eq_true rfl, Or.inr ⟨rfl, (show 241 < nc by omega)⟩⟩, q⟩
set_option maxRecDepth 100000 in
theorem go_X3_descend_5 {nc : Nat} {C : tf_C} {Q : tf_Q} {h : LH} (hn : 270 ≤ nc) {x1 : Nat} {x2 : Int32} {y0 : Int32} (Kx1_0 : tf_K x1 = 0) (q : C 138 [.ref (x1), .int (h.1 241 3)] h (fun r g => lx_X3_descend nc C Q 13 [.ref (241), .ref (x1), .int (x2), tf_z, tf_z, tf_z] (r :: [.int (y0)]) g)) : lx_X3_descend nc C Q 5 [.ref (241), .ref (x1), .int (x2), tf_z, tf_z, tf_z] [.int (y0)] h := by
  obtain ⟨Bx1, ⟨Kx1_1, Kx1_2, Kx1_3, Kx1_4, Kx1_5, Kx1_6, Kx1_7, Kx1_8, Kx1_9, Kx1_10, Kx1_11, Kx1_12, Kx1_13, Kx1_14⟩, ⟨Nx1_1, Nx1_2, Nx1_3, Nx1_4, Nx1_5, Nx1_6, Nx1_7, Nx1_8, Nx1_9, Nx1_10, Nx1_12, Nx1_13, Nx1_14⟩⟩ := tn_net Kx1_0
  refine tf_LW_go ?_
  exact ⟨⟨(by first | rfl | trivial), (show 241 < nc by omega)⟩, ⟨Nat.le_of_ble_eq_true rfl, Nat.le_of_ble_eq_true rfl, q⟩⟩
set_option maxRecDepth 100000 in
theorem go_X3_descend_13 {nc : Nat} {C : tf_C} {Q : tf_Q} {h : LH} (hn : 270 ≤ nc) {x1 : Nat} {x2 : Int32} {y0 : Int32} {y1 : Int32} (Kx1_0 : tf_K x1 = 0) (q : ((y0 - y1) < (0 : Int32) → lx_X3_descend nc C Q 30 [.ref (241), .ref (x1), .int (x2), .int (y0 - y1), tf_z, tf_z] [] h) ∧ (¬ (y0 - y1) < (0 : Int32) → (((h.1 241 2) + (y0 - y1)) ≤ (8 : Int32) → lx_X3_descend nc C Q 31 [.ref (241), .ref (x1), .int (x2), .int (y0 - y1), tf_z, tf_z] [] h) ∧ (¬ ((h.1 241 2) + (y0 - y1)) ≤ (8 : Int32) → lx_X3_descend nc C Q 30 [.ref (241), .ref (x1), .int (x2), .int (y0 - y1), tf_z, tf_z] [] h))) : lx_X3_descend nc C Q 13 [.ref (241), .ref (x1), .int (x2), tf_z, tf_z, tf_z] [.int (y1), .int (y0)] h := by
  obtain ⟨Bx1, ⟨Kx1_1, Kx1_2, Kx1_3, Kx1_4, Kx1_5, Kx1_6, Kx1_7, Kx1_8, Kx1_9, Kx1_10, Kx1_11, Kx1_12, Kx1_13, Kx1_14⟩, ⟨Nx1_1, Nx1_2, Nx1_3, Nx1_4, Nx1_5, Nx1_6, Nx1_7, Nx1_8, Nx1_9, Nx1_10, Nx1_12, Nx1_13, Nx1_14⟩⟩ := tn_net Kx1_0
  refine tf_LW_go ?_
  exact ⟨q.1, fun c2 => ⟨⟨(by first | rfl | trivial), (show 241 < nc by omega)⟩, ⟨(q.2 c2).1, fun c1 => ((q.2 c2).2 c1)⟩⟩⟩
set_option maxRecDepth 100000 in
theorem go_X3_descend_30 {nc : Nat} {C : tf_C} {Q : tf_Q} {h : LH} (hn : 270 ≤ nc) {x1 : Nat} {x2 : Int32} {x3 : Int32} (Kx1_0 : tf_K x1 = 0) (q : Q tf_z h) : lx_X3_descend nc C Q 30 [.ref (241), .ref (x1), .int (x2), .int (x3), tf_z, tf_z] [] h := by
  obtain ⟨Bx1, ⟨Kx1_1, Kx1_2, Kx1_3, Kx1_4, Kx1_5, Kx1_6, Kx1_7, Kx1_8, Kx1_9, Kx1_10, Kx1_11, Kx1_12, Kx1_13, Kx1_14⟩, ⟨Nx1_1, Nx1_2, Nx1_3, Nx1_4, Nx1_5, Nx1_6, Nx1_7, Nx1_8, Nx1_9, Nx1_10, Nx1_12, Nx1_13, Nx1_14⟩⟩ := tn_net Kx1_0
  refine tf_LW_go ?_
  exact ⟨(by first | rfl | trivial), q⟩
set_option maxRecDepth 100000 in
theorem go_X3_descend_31 {nc : Nat} {C : tf_C} {Q : tf_Q} {h : LH} (hn : 270 ≤ nc) {x1 : Nat} {x2 : Int32} {x3 : Int32} (Kx1_0 : tf_K x1 = 0) (q : lx_X3_descend nc C Q 44 [.ref (241), .ref (x1), .int (x2), .int (x3), .int (x2), .int (((h.1 241 2) + x3) - 1)] [] h) : lx_X3_descend nc C Q 31 [.ref (241), .ref (x1), .int (x2), .int (x3), tf_z, tf_z] [] h := by
  obtain ⟨Bx1, ⟨Kx1_1, Kx1_2, Kx1_3, Kx1_4, Kx1_5, Kx1_6, Kx1_7, Kx1_8, Kx1_9, Kx1_10, Kx1_11, Kx1_12, Kx1_13, Kx1_14⟩, ⟨Nx1_1, Nx1_2, Nx1_3, Nx1_4, Nx1_5, Nx1_6, Nx1_7, Nx1_8, Nx1_9, Nx1_10, Nx1_12, Nx1_13, Nx1_14⟩⟩ := tn_net Kx1_0
  refine tf_LW_go ?_
  exact ⟨⟨(by first | rfl | trivial), (show 241 < nc by omega)⟩, q⟩
set_option maxRecDepth 100000 in
theorem go_X3_descend_44 {nc : Nat} {C : tf_C} {Q : tf_Q} {h : LH} (hn : 270 ≤ nc) {x1 : Nat} {x2 : Int32} {x3 : Int32} {x4 : Int32} {x5 : Int32} (Kx1_0 : tf_K x1 = 0) (q : (x5 < (h.1 241 2) → lx_X3_descend nc C Q 118 [.ref (241), .ref (x1), .int (x2), .int (x3), .int (x4), .int (x5)] [] h) ∧ (¬ x5 < (h.1 241 2) → (x4 = (7 : Int32) → lx_X3_descend nc C Q 118 [.ref (241), .ref (x1), .int (x2), .int (x3), .int (x4), .int (x5)] [] h) ∧ (¬ x4 = (7 : Int32) → (vp_in x4 7) ∧ (vp_in x5 8) ∧ (vp_in x5 8) ∧ (vp_in ((tf_up h.1 242 (x5 : Int32).toNatClampNeg (h.1 (x1 + 9) (x4 : Int32).toNatClampNeg)) 242 (x5 : Int32).toNatClampNeg) 21) ∧ (((tf_up h.1 242 (x5 : Int32).toNatClampNeg (h.1 (x1 + 9) (x4 : Int32).toNatClampNeg)) (x1 + 2) ((tf_up h.1 242 (x5 : Int32).toNatClampNeg (h.1 (x1 + 9) (x4 : Int32).toNatClampNeg)) 242 (x5 : Int32).toNatClampNeg : Int32).toNatClampNeg) = x4 → lx_X3_descend nc C Q 101 [.ref (241), .ref (x1), .int (x2), .int (x3), .int (x4), .int (x5)] [.int (x5), .ref (243)] (tf_up h.1 242 (x5 : Int32).toNatClampNeg (h.1 (x1 + 9) (x4 : Int32).toNatClampNeg), h.2)) ∧ (¬ ((tf_up h.1 242 (x5 : Int32).toNatClampNeg (h.1 (x1 + 9) (x4 : Int32).toNatClampNeg)) (x1 + 2) ((tf_up h.1 242 (x5 : Int32).toNatClampNeg (h.1 (x1 + 9) (x4 : Int32).toNatClampNeg)) 242 (x5 : Int32).toNatClampNeg : Int32).toNatClampNeg) = x4 → lx_X3_descend nc C Q 102 [.ref (241), .ref (x1), .int (x2), .int (x3), .int (x4), .int (x5)] [.int (1), .int (x5), .ref (243)] (tf_up h.1 242 (x5 : Int32).toNatClampNeg (h.1 (x1 + 9) (x4 : Int32).toNatClampNeg), h.2))))) : lx_X3_descend nc C Q 44 [.ref (241), .ref (x1), .int (x2), .int (x3), .int (x4), .int (x5)] [] h := by
  obtain ⟨Bx1, ⟨Kx1_1, Kx1_2, Kx1_3, Kx1_4, Kx1_5, Kx1_6, Kx1_7, Kx1_8, Kx1_9, Kx1_10, Kx1_11, Kx1_12, Kx1_13, Kx1_14⟩, ⟨Nx1_1, Nx1_2, Nx1_3, Nx1_4, Nx1_5, Nx1_6, Nx1_7, Nx1_8, Nx1_9, Nx1_10, Nx1_12, Nx1_13, Nx1_14⟩⟩ := tn_net Kx1_0
  refine tf_LW_go ?_
  show (tf_K 241 = 2 ∧ 241 < nc) ∧ (x5 < (h.1 241 2) → lx_X3_descend nc C Q 118 [.ref (241), .ref (x1), .int (x2), .int (x3), .int (x4), .int (x5)] [] h) ∧ (¬ x5 < (h.1 241 2) → (x4 = (7 : Int32) → lx_X3_descend nc C Q 118 [.ref (241), .ref (x1), .int (x2), .int (x3), .int (x4), .int (x5)] [] h) ∧ (¬ x4 = (7 : Int32) → (tf_K 241 = 2 ∧ 241 < nc) ∧ (tf_K x1 = 0 ∧ x1 < nc) ∧ (tf_K (tf_R x1 11) = 8 ∧ (tf_R x1 11) < nc ∧ vp_in x4 (tf_N (tf_R x1 11))) ∧ (tf_K 242 = 8 ∧ 242 < nc ∧ vp_in x5 8) ∧ (tf_K 241 = 2 ∧ 241 < nc) ∧ (tf_K x1 = 0 ∧ x1 < nc) ∧ (tf_K 241 = 2 ∧ 241 < nc) ∧ (tf_K 242 = 8 ∧ 242 < nc ∧ vp_in x5 8) ∧ (tf_K (tf_R x1 4) = 8 ∧ (tf_R x1 4) < nc ∧ vp_in ((tf_up h.1 242 (x5 : Int32).toNatClampNeg (h.1 (tf_R x1 11) (x4 : Int32).toNatClampNeg)) 242 (x5 : Int32).toNatClampNeg) (tf_N (tf_R x1 4))) ∧ (((tf_up h.1 242 (x5 : Int32).toNatClampNeg (h.1 (tf_R x1 11) (x4 : Int32).toNatClampNeg)) (tf_R x1 4) ((tf_up h.1 242 (x5 : Int32).toNatClampNeg (h.1 (tf_R x1 11) (x4 : Int32).toNatClampNeg)) 242 (x5 : Int32).toNatClampNeg : Int32).toNatClampNeg) = x4 → lx_X3_descend nc C Q 101 [.ref (241), .ref (x1), .int (x2), .int (x3), .int (x4), .int (x5)] [.int (x5), .ref (243)] (tf_up h.1 242 (x5 : Int32).toNatClampNeg (h.1 (tf_R x1 11) (x4 : Int32).toNatClampNeg), h.2)) ∧ (¬ ((tf_up h.1 242 (x5 : Int32).toNatClampNeg (h.1 (tf_R x1 11) (x4 : Int32).toNatClampNeg)) (tf_R x1 4) ((tf_up h.1 242 (x5 : Int32).toNatClampNeg (h.1 (tf_R x1 11) (x4 : Int32).toNatClampNeg)) 242 (x5 : Int32).toNatClampNeg : Int32).toNatClampNeg) = x4 → lx_X3_descend nc C Q 102 [.ref (241), .ref (x1), .int (x2), .int (x3), .int (x4), .int (x5)] [.int (1), .int (x5), .ref (243)] (tf_up h.1 242 (x5 : Int32).toNatClampNeg (h.1 (tf_R x1 11) (x4 : Int32).toNatClampNeg), h.2))))
  try simp only [(show tf_R x1 4 = x1 + 2 by rw [tn_R0 Kx1_0]; try omega), (show tf_R x1 11 = x1 + 9 by rw [tn_R0 Kx1_0]; try omega), Nx1_2, Nx1_9]
  exact ⟨⟨(by first | rfl | trivial), (show 241 < nc by omega)⟩, ⟨q.1, fun c3 => ⟨(q.2 c3).1, fun c2 => ⟨⟨(by first | rfl | trivial), (show 241 < nc by omega)⟩, ⟨⟨Kx1_0, (show x1 < nc by omega)⟩, ⟨⟨Kx1_9, (show x1 + 9 < nc by omega), ((q.2 c3).2 c2).1⟩, ⟨⟨(by first | rfl | trivial), (show 242 < nc by omega), ((q.2 c3).2 c2).2.1⟩, ⟨⟨(by first | rfl | trivial), (show 241 < nc by omega)⟩, ⟨⟨Kx1_0, (show x1 < nc by omega)⟩, ⟨⟨(by first | rfl | trivial), (show 241 < nc by omega)⟩, ⟨⟨(by first | rfl | trivial), (show 242 < nc by omega), ((q.2 c3).2 c2).2.2.1⟩, ⟨⟨Kx1_2, (show x1 + 2 < nc by omega), ((q.2 c3).2 c2).2.2.2.1⟩, ⟨((q.2 c3).2 c2).2.2.2.2.1, fun c1 => (((q.2 c3).2 c2).2.2.2.2.2 c1)⟩⟩⟩⟩⟩⟩⟩⟩⟩⟩⟩⟩⟩
set_option maxRecDepth 100000 in
theorem go_X3_descend_101 {nc : Nat} {C : tf_C} {Q : tf_Q} {h : LH} (hn : 270 ≤ nc) {x1 : Nat} {x2 : Int32} {x3 : Int32} {x4 : Int32} {x5 : Int32} {y0 ny0 : Nat} {y1 : Int32} (Kx1_0 : tf_K x1 = 0) (Ky0_0 : tf_K y0 = 11) (Ny0_0 : tf_N y0 = ny0) (By0 : y0 < nc) (q : lx_X3_descend nc C Q 102 [.ref (241), .ref (x1), .int (x2), .int (x3), .int (x4), .int (x5)] [.int (0), .int (y1), .ref (y0)] h) : lx_X3_descend nc C Q 101 [.ref (241), .ref (x1), .int (x2), .int (x3), .int (x4), .int (x5)] [.int (y1), .ref (y0)] h := by
  obtain ⟨Bx1, ⟨Kx1_1, Kx1_2, Kx1_3, Kx1_4, Kx1_5, Kx1_6, Kx1_7, Kx1_8, Kx1_9, Kx1_10, Kx1_11, Kx1_12, Kx1_13, Kx1_14⟩, ⟨Nx1_1, Nx1_2, Nx1_3, Nx1_4, Nx1_5, Nx1_6, Nx1_7, Nx1_8, Nx1_9, Nx1_10, Nx1_12, Nx1_13, Nx1_14⟩⟩ := tn_net Kx1_0
  refine tf_LW_go ?_
  show lx_X3_descend nc C Q 102 [.ref (241), .ref (x1), .int (x2), .int (x3), .int (x4), .int (x5)] [.int (0), .int (y1), .ref (y0)] h
  try simp only [Ny0_0]
  exact q
set_option maxRecDepth 100000 in
theorem go_X3_descend_102 {nc : Nat} {C : tf_C} {Q : tf_Q} {h : LH} (hn : 270 ≤ nc) {x1 : Nat} {x2 : Int32} {x3 : Int32} {x4 : Int32} {x5 : Int32} {y0 ny0 : Nat} {y1 : Int32} {y2 : Int32} (Kx1_0 : tf_K x1 = 0) (Ky0_0 : tf_K y0 = 11) (Ny0_0 : tf_N y0 = ny0) (By0 : y0 < nc) (q : (vp_in y1 ny0) ∧ (vp_in x4 7) ∧ lx_X3_descend nc C Q 44 [.ref (241), .ref (x1), .int (x2), .int (x3), .int ((tf_up h.1 y0 (y1 : Int32).toNatClampNeg (vp_nar .boolean y2)) (x1 + 8) (x4 : Int32).toNatClampNeg), .int (x5 + (-1))] [] (tf_up h.1 y0 (y1 : Int32).toNatClampNeg (vp_nar .boolean y2), h.2)) : lx_X3_descend nc C Q 102 [.ref (241), .ref (x1), .int (x2), .int (x3), .int (x4), .int (x5)] [.int (y2), .int (y1), .ref (y0)] h := by
  obtain ⟨Bx1, ⟨Kx1_1, Kx1_2, Kx1_3, Kx1_4, Kx1_5, Kx1_6, Kx1_7, Kx1_8, Kx1_9, Kx1_10, Kx1_11, Kx1_12, Kx1_13, Kx1_14⟩, ⟨Nx1_1, Nx1_2, Nx1_3, Nx1_4, Nx1_5, Nx1_6, Nx1_7, Nx1_8, Nx1_9, Nx1_10, Nx1_12, Nx1_13, Nx1_14⟩⟩ := tn_net Kx1_0
  refine tf_LW_go ?_
  show (y0 < nc ∧ vp_in y1 (tf_N y0)) ∧ ((tf_K y0 = 10 ∧ (tf_K x1 = 0 ∧ x1 < nc) ∧ (tf_K (tf_R x1 10) = 8 ∧ (tf_R x1 10) < nc ∧ vp_in x4 (tf_N (tf_R x1 10))) ∧ lx_X3_descend nc C Q 44 [.ref (241), .ref (x1), .int (x2), .int (x3), .int ((tf_up h.1 y0 (y1 : Int32).toNatClampNeg (vp_nar .byte y2)) (tf_R x1 10) (x4 : Int32).toNatClampNeg), .int (x5 + (-1))] [] (tf_up h.1 y0 (y1 : Int32).toNatClampNeg (vp_nar .byte y2), h.2)) ∨ (tf_K y0 = 11 ∧ (tf_K x1 = 0 ∧ x1 < nc) ∧ (tf_K (tf_R x1 10) = 8 ∧ (tf_R x1 10) < nc ∧ vp_in x4 (tf_N (tf_R x1 10))) ∧ lx_X3_descend nc C Q 44 [.ref (241), .ref (x1), .int (x2), .int (x3), .int ((tf_up h.1 y0 (y1 : Int32).toNatClampNeg (vp_nar .boolean y2)) (tf_R x1 10) (x4 : Int32).toNatClampNeg), .int (x5 + (-1))] [] (tf_up h.1 y0 (y1 : Int32).toNatClampNeg (vp_nar .boolean y2), h.2)))
  try simp only [(show tf_R x1 10 = x1 + 8 by rw [tn_R0 Kx1_0]; try omega), Nx1_8, Ny0_0]
  exact ⟨⟨(show y0 < nc by omega), q.1⟩, Or.inr ⟨Ky0_0, ⟨⟨Kx1_0, (show x1 < nc by omega)⟩, ⟨⟨Kx1_8, (show x1 + 8 < nc by omega), q.2.1⟩, q.2.2⟩⟩⟩⟩
set_option maxRecDepth 100000 in
theorem go_X3_descend_118 {nc : Nat} {C : tf_C} {Q : tf_Q} {h : LH} (hn : 270 ≤ nc) {x1 : Nat} {x2 : Int32} {x3 : Int32} {x4 : Int32} {x5 : Int32} (Kx1_0 : tf_K x1 = 0) (q : Q tf_z (tf_up h.1 241 2 ((h.1 241 2) + x3), h.2)) : lx_X3_descend nc C Q 118 [.ref (241), .ref (x1), .int (x2), .int (x3), .int (x4), .int (x5)] [] h := by
  obtain ⟨Bx1, ⟨Kx1_1, Kx1_2, Kx1_3, Kx1_4, Kx1_5, Kx1_6, Kx1_7, Kx1_8, Kx1_9, Kx1_10, Kx1_11, Kx1_12, Kx1_13, Kx1_14⟩, ⟨Nx1_1, Nx1_2, Nx1_3, Nx1_4, Nx1_5, Nx1_6, Nx1_7, Nx1_8, Nx1_9, Nx1_10, Nx1_12, Nx1_13, Nx1_14⟩⟩ := tn_net Kx1_0
  refine tf_LW_go ?_
  exact ⟨⟨(by first | rfl | trivial), (show 241 < nc by omega)⟩, ⟨⟨(by first | rfl | trivial), (show 241 < nc by omega), (by first | rfl | trivial)⟩, ⟨(by first | rfl | trivial), q⟩⟩⟩
abbrev lx_X3_add (nc : Nat) (C : tf_C) (Q : tf_Q) : tf_X := tf_LW nc C (tf_F 2) (tf_M 2) (tf_I 2) (tf_Eh 169) 0 tb_X3_add Q
set_option maxRecDepth 100000 in
theorem go_X3_add_0 {nc : Nat} {C : tf_C} {Q : tf_Q} {h : LH} (hn : 270 ≤ nc) {x1 : Int32} {x2 : Int32} (q : ((8 : Int32) ≤ (h.1 241 2) → lx_X3_add nc C Q 39 [.ref (241), .int (x1), .int (x2)] [] h) ∧ (¬ (8 : Int32) ≤ (h.1 241 2) → (vp_in (h.1 241 2) 8) ∧ (vp_in ((tf_up h.1 242 (h.1 241 2 : Int32).toNatClampNeg x1) 241 2) 8) ∧ lx_X3_add nc C Q 39 [.ref (241), .int (x1), .int (x2)] [] (tf_up (tf_up (tf_up h.1 242 (h.1 241 2 : Int32).toNatClampNeg x1) 243 ((tf_up h.1 242 (h.1 241 2 : Int32).toNatClampNeg x1) 241 2 : Int32).toNatClampNeg (vp_nar .boolean x2)) 241 2 (((tf_up (tf_up h.1 242 (h.1 241 2 : Int32).toNatClampNeg x1) 243 ((tf_up h.1 242 (h.1 241 2 : Int32).toNatClampNeg x1) 241 2 : Int32).toNatClampNeg (vp_nar .boolean x2)) 241 2) + 1), h.2))) : lx_X3_add nc C Q 0 [.ref (241), .int (x1), .int (x2)] [] h := by
  refine tf_LW_go ?_
  exact ⟨⟨(by first | rfl | trivial), (show 241 < nc by omega)⟩, ⟨q.1, fun c1 => ⟨⟨(by first | rfl | trivial), (show 241 < nc by omega)⟩, ⟨⟨(by first | rfl | trivial), (show 241 < nc by omega)⟩, ⟨⟨(by first | rfl | trivial), (show 242 < nc by omega), (q.2 c1).1⟩, ⟨⟨(by first | rfl | trivial), (show 241 < nc by omega)⟩, ⟨⟨(by first | rfl | trivial), (show 241 < nc by omega)⟩, ⟨⟨(show 243 < nc by omega), (q.2 c1).2.1⟩, Or.inr ⟨(by first | rfl | trivial), ⟨⟨(by first | rfl | trivial), (show 241 < nc by omega)⟩, ⟨⟨(by first | rfl | trivial), (show 241 < nc by omega), (by first | rfl | trivial)⟩, (q.2 c1).2.2⟩⟩⟩⟩⟩⟩⟩⟩⟩⟩⟩
theorem en_X3_add {nc d : Nat} {Q : tf_Q} {h : LH} (hn : 270 ≤ nc) {x1 : Int32} {x2 : Int32} (q : lx_X3_add nc (tf_Cd nc d) Q 0 [.ref (241), .int (x1), .int (x2)] [] h) : tf_Cd nc (d + 1) 169 [.ref (241), .int (x1), .int (x2)] h Q := by
  exact ⟨⟨Nat.le_of_ble_eq_true rfl, Or.inr ⟨rfl, (show 241 < nc by omega)⟩⟩, q⟩
set_option maxRecDepth 100000 in
theorem go_X3_add_39 {nc : Nat} {C : tf_C} {Q : tf_Q} {h : LH} (hn : 270 ≤ nc) {x1 : Int32} {x2 : Int32} (q : Q tf_z h) : lx_X3_add nc C Q 39 [.ref (241), .int (x1), .int (x2)] [] h := by
  refine tf_LW_go ?_
  exact ⟨(by first | rfl | trivial), q⟩
abbrev lx_X6_split (nc : Nat) (C : tf_C) (Q : tf_Q) : tf_X := tf_LW nc C (tf_F 5) (tf_M 5) (tf_I 5) (tf_Eh 174) 0 tb_X6_split Q
set_option maxRecDepth 100000 in
theorem go_X6_split_0 {nc : Nat} {C : tf_C} {Q : tf_Q} {h : LH} (hn : 270 ≤ nc) {x1 : Nat} (Kx1_0 : tf_K x1 = 0) (q : lx_X6_split nc C Q 7 [.ref (244), .ref (x1), .int (0), tf_z] [] (tf_up h.1 244 0 0, h.2)) : lx_X6_split nc C Q 0 [.ref (244), .ref (x1), tf_z, tf_z] [] h := by
  obtain ⟨Bx1, ⟨Kx1_1, Kx1_2, Kx1_3, Kx1_4, Kx1_5, Kx1_6, Kx1_7, Kx1_8, Kx1_9, Kx1_10, Kx1_11, Kx1_12, Kx1_13, Kx1_14⟩, ⟨Nx1_1, Nx1_2, Nx1_3, Nx1_4, Nx1_5, Nx1_6, Nx1_7, Nx1_8, Nx1_9, Nx1_10, Nx1_12, Nx1_13, Nx1_14⟩⟩ := tn_net Kx1_0
  refine tf_LW_go ?_
  exact ⟨⟨(by first | rfl | trivial), (show 244 < nc by omega), (by first | rfl | trivial)⟩, q⟩
theorem en_X6_split {nc d : Nat} {Q : tf_Q} {h : LH} (hn : 270 ≤ nc) {x1 : Nat} (Kx1_0 : tf_K x1 = 0) (q : lx_X6_split nc (tf_Cd nc d) Q 0 [.ref (244), .ref (x1), tf_z, tf_z] [] h) : tf_Cd nc (d + 1) 174 [.ref (244), .ref (x1)] h Q := by
  obtain ⟨Bx1, ⟨Kx1_1, Kx1_2, Kx1_3, Kx1_4, Kx1_5, Kx1_6, Kx1_7, Kx1_8, Kx1_9, Kx1_10, Kx1_11, Kx1_12, Kx1_13, Kx1_14⟩, ⟨Nx1_1, Nx1_2, Nx1_3, Nx1_4, Nx1_5, Nx1_6, Nx1_7, Nx1_8, Nx1_9, Nx1_10, Nx1_12, Nx1_13, Nx1_14⟩⟩ := tn_net Kx1_0
  exact ⟨⟨Nat.le_of_ble_eq_true rfl, Or.inr ⟨rfl, (show 244 < nc by omega)⟩⟩, q⟩
set_option maxRecDepth 100000 in
theorem go_X6_split_7 {nc : Nat} {C : tf_C} {Q : tf_Q} {h : LH} (hn : 270 ≤ nc) {x1 : Nat} {x2 : Int32} (Kx1_0 : tf_K x1 = 0) (q : ((h.1 x1 1) ≤ x2 → lx_X6_split nc C Q 33 [.ref (244), .ref (x1), .int (x2), tf_z] [] h) ∧ (¬ (h.1 x1 1) ≤ x2 → (vp_in x2 21) ∧ (vp_in x2 14) ∧ lx_X6_split nc C Q 7 [.ref (244), .ref (x1), .int (x2 + 1), tf_z] [] (tf_up h.1 248 (x2 : Int32).toNatClampNeg (h.1 (x1 + 6) (x2 : Int32).toNatClampNeg), h.2))) : lx_X6_split nc C Q 7 [.ref (244), .ref (x1), .int (x2), tf_z] [] h := by
  obtain ⟨Bx1, ⟨Kx1_1, Kx1_2, Kx1_3, Kx1_4, Kx1_5, Kx1_6, Kx1_7, Kx1_8, Kx1_9, Kx1_10, Kx1_11, Kx1_12, Kx1_13, Kx1_14⟩, ⟨Nx1_1, Nx1_2, Nx1_3, Nx1_4, Nx1_5, Nx1_6, Nx1_7, Nx1_8, Nx1_9, Nx1_10, Nx1_12, Nx1_13, Nx1_14⟩⟩ := tn_net Kx1_0
  refine tf_LW_go ?_
  show (tf_K x1 = 0 ∧ x1 < nc) ∧ ((h.1 x1 1) ≤ x2 → lx_X6_split nc C Q 33 [.ref (244), .ref (x1), .int (x2), tf_z] [] h) ∧ (¬ (h.1 x1 1) ≤ x2 → (tf_K 244 = 5 ∧ 244 < nc) ∧ (tf_K x1 = 0 ∧ x1 < nc) ∧ (tf_K (tf_R x1 8) = 8 ∧ (tf_R x1 8) < nc ∧ vp_in x2 (tf_N (tf_R x1 8))) ∧ (tf_K 248 = 8 ∧ 248 < nc ∧ vp_in x2 14) ∧ lx_X6_split nc C Q 7 [.ref (244), .ref (x1), .int (x2 + 1), tf_z] [] (tf_up h.1 248 (x2 : Int32).toNatClampNeg (h.1 (tf_R x1 8) (x2 : Int32).toNatClampNeg), h.2))
  try simp only [(show tf_R x1 8 = x1 + 6 by rw [tn_R0 Kx1_0]; try omega), Nx1_6]
  exact ⟨⟨Kx1_0, (show x1 < nc by omega)⟩, ⟨q.1, fun c1 => ⟨⟨(by first | rfl | trivial), (show 244 < nc by omega)⟩, ⟨⟨Kx1_0, (show x1 < nc by omega)⟩, ⟨⟨Kx1_6, (show x1 + 6 < nc by omega), (q.2 c1).1⟩, ⟨⟨(by first | rfl | trivial), (show 248 < nc by omega), (q.2 c1).2.1⟩, (q.2 c1).2.2⟩⟩⟩⟩⟩⟩
set_option maxRecDepth 100000 in
theorem go_X6_split_33 {nc : Nat} {C : tf_C} {Q : tf_Q} {h : LH} (hn : 270 ≤ nc) {x1 : Nat} {x2 : Int32} (Kx1_0 : tf_K x1 = 0) (q : C 176 [.ref (244), .ref (x1)] h (fun r g => lx_X6_split nc C Q 38 [.ref (244), .ref (x1), .int (x2), tf_z] (r :: []) g)) : lx_X6_split nc C Q 33 [.ref (244), .ref (x1), .int (x2), tf_z] [] h := by
  obtain ⟨Bx1, ⟨Kx1_1, Kx1_2, Kx1_3, Kx1_4, Kx1_5, Kx1_6, Kx1_7, Kx1_8, Kx1_9, Kx1_10, Kx1_11, Kx1_12, Kx1_13, Kx1_14⟩, ⟨Nx1_1, Nx1_2, Nx1_3, Nx1_4, Nx1_5, Nx1_6, Nx1_7, Nx1_8, Nx1_9, Nx1_10, Nx1_12, Nx1_13, Nx1_14⟩⟩ := tn_net Kx1_0
  refine tf_LW_go ?_
  exact ⟨Nat.le_of_ble_eq_true rfl, Nat.le_of_ble_eq_true rfl, q⟩
set_option maxRecDepth 100000 in
theorem go_X6_split_38 {nc : Nat} {C : tf_C} {Q : tf_Q} {h : LH} (hn : 270 ≤ nc) {x1 : Nat} {x2 : Int32} {y0 : Int32} (Kx1_0 : tf_K x1 = 0) (q : lx_X6_split nc C Q 41 [.ref (244), .ref (x1), .int (y0), .int (0)] [] h) : lx_X6_split nc C Q 38 [.ref (244), .ref (x1), .int (x2), tf_z] [.int (y0)] h := by
  obtain ⟨Bx1, ⟨Kx1_1, Kx1_2, Kx1_3, Kx1_4, Kx1_5, Kx1_6, Kx1_7, Kx1_8, Kx1_9, Kx1_10, Kx1_11, Kx1_12, Kx1_13, Kx1_14⟩, ⟨Nx1_1, Nx1_2, Nx1_3, Nx1_4, Nx1_5, Nx1_6, Nx1_7, Nx1_8, Nx1_9, Nx1_10, Nx1_12, Nx1_13, Nx1_14⟩⟩ := tn_net Kx1_0
  refine tf_LW_go ?_
  exact q
set_option maxRecDepth 100000 in
theorem go_X6_split_41 {nc : Nat} {C : tf_C} {Q : tf_Q} {h : LH} (hn : 270 ≤ nc) {x1 : Nat} {x2 : Int32} {x3 : Int32} (Kx1_0 : tf_K x1 = 0) (q : ((14 : Int32) ≤ x3 → lx_X6_split nc C Q 74 [.ref (244), .ref (x1), .int (x2), .int (x3)] [] h) ∧ (¬ (14 : Int32) ≤ x3 → (x2 = ((-1) : Int32) → lx_X6_split nc C Q 74 [.ref (244), .ref (x1), .int (x2), .int (x3)] [] h) ∧ (¬ x2 = ((-1) : Int32) → C 179 [.ref (244), .ref (x1), .int (x2)] h (fun r g => lx_X6_split nc C Q 58 [.ref (244), .ref (x1), .int (x2), .int (x3)] [] g)))) : lx_X6_split nc C Q 41 [.ref (244), .ref (x1), .int (x2), .int (x3)] [] h := by
  obtain ⟨Bx1, ⟨Kx1_1, Kx1_2, Kx1_3, Kx1_4, Kx1_5, Kx1_6, Kx1_7, Kx1_8, Kx1_9, Kx1_10, Kx1_11, Kx1_12, Kx1_13, Kx1_14⟩, ⟨Nx1_1, Nx1_2, Nx1_3, Nx1_4, Nx1_5, Nx1_6, Nx1_7, Nx1_8, Nx1_9, Nx1_10, Nx1_12, Nx1_13, Nx1_14⟩⟩ := tn_net Kx1_0
  refine tf_LW_go ?_
  exact ⟨q.1, fun c2 => ⟨(q.2 c2).1, fun c1 => ⟨Nat.le_of_ble_eq_true rfl, Nat.le_of_ble_eq_true rfl, ((q.2 c2).2 c1)⟩⟩⟩
set_option maxRecDepth 100000 in
theorem go_X6_split_58 {nc : Nat} {C : tf_C} {Q : tf_Q} {h : LH} (hn : 270 ≤ nc) {x1 : Nat} {x2 : Int32} {x3 : Int32} (Kx1_0 : tf_K x1 = 0) (q : C 180 [.ref (244)] h (fun r g => lx_X6_split nc C Q 62 [.ref (244), .ref (x1), .int (x2), .int (x3)] [] g)) : lx_X6_split nc C Q 58 [.ref (244), .ref (x1), .int (x2), .int (x3)] [] h := by
  obtain ⟨Bx1, ⟨Kx1_1, Kx1_2, Kx1_3, Kx1_4, Kx1_5, Kx1_6, Kx1_7, Kx1_8, Kx1_9, Kx1_10, Kx1_11, Kx1_12, Kx1_13, Kx1_14⟩, ⟨Nx1_1, Nx1_2, Nx1_3, Nx1_4, Nx1_5, Nx1_6, Nx1_7, Nx1_8, Nx1_9, Nx1_10, Nx1_12, Nx1_13, Nx1_14⟩⟩ := tn_net Kx1_0
  refine tf_LW_go ?_
  exact ⟨Nat.le_of_ble_eq_true rfl, Nat.le_of_ble_eq_true rfl, q⟩
set_option maxRecDepth 100000 in
theorem go_X6_split_62 {nc : Nat} {C : tf_C} {Q : tf_Q} {h : LH} (hn : 270 ≤ nc) {x1 : Nat} {x2 : Int32} {x3 : Int32} (Kx1_0 : tf_K x1 = 0) (q : C 176 [.ref (244), .ref (x1)] h (fun r g => lx_X6_split nc C Q 67 [.ref (244), .ref (x1), .int (x2), .int (x3)] (r :: []) g)) : lx_X6_split nc C Q 62 [.ref (244), .ref (x1), .int (x2), .int (x3)] [] h := by
  obtain ⟨Bx1, ⟨Kx1_1, Kx1_2, Kx1_3, Kx1_4, Kx1_5, Kx1_6, Kx1_7, Kx1_8, Kx1_9, Kx1_10, Kx1_11, Kx1_12, Kx1_13, Kx1_14⟩, ⟨Nx1_1, Nx1_2, Nx1_3, Nx1_4, Nx1_5, Nx1_6, Nx1_7, Nx1_8, Nx1_9, Nx1_10, Nx1_12, Nx1_13, Nx1_14⟩⟩ := tn_net Kx1_0
  refine tf_LW_go ?_
  exact ⟨Nat.le_of_ble_eq_true rfl, Nat.le_of_ble_eq_true rfl, q⟩
set_option maxRecDepth 100000 in
theorem go_X6_split_67 {nc : Nat} {C : tf_C} {Q : tf_Q} {h : LH} (hn : 270 ≤ nc) {x1 : Nat} {x2 : Int32} {x3 : Int32} {y0 : Int32} (Kx1_0 : tf_K x1 = 0) (q : lx_X6_split nc C Q 41 [.ref (244), .ref (x1), .int (y0), .int (x3 + 1)] [] h) : lx_X6_split nc C Q 67 [.ref (244), .ref (x1), .int (x2), .int (x3)] [.int (y0)] h := by
  obtain ⟨Bx1, ⟨Kx1_1, Kx1_2, Kx1_3, Kx1_4, Kx1_5, Kx1_6, Kx1_7, Kx1_8, Kx1_9, Kx1_10, Kx1_11, Kx1_12, Kx1_13, Kx1_14⟩, ⟨Nx1_1, Nx1_2, Nx1_3, Nx1_4, Nx1_5, Nx1_6, Nx1_7, Nx1_8, Nx1_9, Nx1_10, Nx1_12, Nx1_13, Nx1_14⟩⟩ := tn_net Kx1_0
  refine tf_LW_go ?_
  exact q
set_option maxRecDepth 100000 in
theorem go_X6_split_74 {nc : Nat} {C : tf_C} {Q : tf_Q} {h : LH} (hn : 270 ≤ nc) {x1 : Nat} {x2 : Int32} {x3 : Int32} (Kx1_0 : tf_K x1 = 0) (q : Q tf_z h) : lx_X6_split nc C Q 74 [.ref (244), .ref (x1), .int (x2), .int (x3)] [] h := by
  obtain ⟨Bx1, ⟨Kx1_1, Kx1_2, Kx1_3, Kx1_4, Kx1_5, Kx1_6, Kx1_7, Kx1_8, Kx1_9, Kx1_10, Kx1_11, Kx1_12, Kx1_13, Kx1_14⟩, ⟨Nx1_1, Nx1_2, Nx1_3, Nx1_4, Nx1_5, Nx1_6, Nx1_7, Nx1_8, Nx1_9, Nx1_10, Nx1_12, Nx1_13, Nx1_14⟩⟩ := tn_net Kx1_0
  refine tf_LW_go ?_
  exact ⟨(by first | rfl | trivial), q⟩
abbrev lx_X6_told (nc : Nat) (C : tf_C) (Q : tf_Q) : tf_X := tf_LW nc C (tf_F 5) (tf_M 5) (tf_I 5) (tf_Eh 175) 1 tb_X6_told Q
set_option maxRecDepth 100000 in
theorem go_X6_told_0 {nc : Nat} {C : tf_C} {Q : tf_Q} {h : LH} (hn : 270 ≤ nc) {x1 : Int32} {x2 : Int32} (q : (x1 < (0 : Int32) → lx_X6_told nc C Q 12 [.ref (244), .int (x1), .int (x2)] [] h) ∧ (¬ x1 < (0 : Int32) → (x1 < (h.1 244 0) → lx_X6_told nc C Q 14 [.ref (244), .int (x1), .int (x2)] [] h) ∧ (¬ x1 < (h.1 244 0) → lx_X6_told nc C Q 12 [.ref (244), .int (x1), .int (x2)] [] h))) : lx_X6_told nc C Q 0 [.ref (244), .int (x1), .int (x2)] [] h := by
  refine tf_LW_go ?_
  exact ⟨q.1, fun c2 => ⟨⟨(by first | rfl | trivial), (show 244 < nc by omega)⟩, ⟨(q.2 c2).1, fun c1 => ((q.2 c2).2 c1)⟩⟩⟩
theorem en_X6_told {nc d : Nat} {Q : tf_Q} {h : LH} (hn : 270 ≤ nc) {x1 : Int32} {x2 : Int32} (q : lx_X6_told nc (tf_Cd nc d) Q 0 [.ref (244), .int (x1), .int (x2)] [] h) : tf_Cd nc (d + 1) 175 [.ref (244), .int (x1), .int (x2)] h Q := by
  exact ⟨⟨Nat.le_of_ble_eq_true rfl, Or.inr ⟨rfl, (show 244 < nc by omega)⟩⟩, q⟩
set_option maxRecDepth 100000 in
theorem go_X6_told_12 {nc : Nat} {C : tf_C} {Q : tf_Q} {h : LH} (hn : 270 ≤ nc) {x1 : Int32} {x2 : Int32} (q : Q (.int ((-1))) h) : lx_X6_told nc C Q 12 [.ref (244), .int (x1), .int (x2)] [] h := by
  refine tf_LW_go ?_
  exact ⟨(by first | trivial | rfl), q⟩
set_option maxRecDepth 100000 in
theorem go_X6_told_14 {nc : Nat} {C : tf_C} {Q : tf_Q} {h : LH} (hn : 270 ≤ nc) {x1 : Int32} {x2 : Int32} (q : (x2 = (0 : Int32) → (vp_in x1 14) ∧ Q (.int (h.1 245 (x1 : Int32).toNatClampNeg)) h) ∧ (¬ x2 = (0 : Int32) → lx_X6_told nc C Q 25 [.ref (244), .int (x1), .int (x2)] [] h)) : lx_X6_told nc C Q 14 [.ref (244), .int (x1), .int (x2)] [] h := by
  refine tf_LW_go ?_
  exact ⟨fun c1 => ⟨⟨(by first | rfl | trivial), (show 244 < nc by omega)⟩, ⟨⟨(by first | rfl | trivial), (show 245 < nc by omega), (q.1 c1).1⟩, ⟨(by first | trivial | rfl), (q.1 c1).2⟩⟩⟩, q.2⟩
set_option maxRecDepth 100000 in
theorem go_X6_told_25 {nc : Nat} {C : tf_C} {Q : tf_Q} {h : LH} (hn : 270 ≤ nc) {x1 : Int32} {x2 : Int32} (q : (x2 = (1 : Int32) → (vp_in x1 14) ∧ Q (.int (h.1 246 (x1 : Int32).toNatClampNeg)) h) ∧ (¬ x2 = (1 : Int32) → lx_X6_told nc C Q 37 [.ref (244), .int (x1), .int (x2)] [] h)) : lx_X6_told nc C Q 25 [.ref (244), .int (x1), .int (x2)] [] h := by
  refine tf_LW_go ?_
  exact ⟨fun c1 => ⟨⟨(by first | rfl | trivial), (show 244 < nc by omega)⟩, ⟨⟨(by first | rfl | trivial), (show 246 < nc by omega), (q.1 c1).1⟩, ⟨(by first | trivial | rfl), (q.1 c1).2⟩⟩⟩, q.2⟩
set_option maxRecDepth 100000 in
theorem go_X6_told_37 {nc : Nat} {C : tf_C} {Q : tf_Q} {h : LH} (hn : 270 ≤ nc) {x1 : Int32} {x2 : Int32} (q : (x2 < (10 : Int32) → lx_X6_told nc C Q 56 [.ref (244), .int (x1), .int (x2)] [] h) ∧ (¬ x2 < (10 : Int32) → (vp_in x1 14) ∧ ((x2 - 10) < (h.1 246 (x1 : Int32).toNatClampNeg) → lx_X6_told nc C Q 58 [.ref (244), .int (x1), .int (x2)] [] h) ∧ (¬ (x2 - 10) < (h.1 246 (x1 : Int32).toNatClampNeg) → lx_X6_told nc C Q 56 [.ref (244), .int (x1), .int (x2)] [] h))) : lx_X6_told nc C Q 37 [.ref (244), .int (x1), .int (x2)] [] h := by
  refine tf_LW_go ?_
  exact ⟨q.1, fun c2 => ⟨⟨(by first | rfl | trivial), (show 244 < nc by omega)⟩, ⟨⟨(by first | rfl | trivial), (show 246 < nc by omega), (q.2 c2).1⟩, ⟨(q.2 c2).2.1, fun c1 => ((q.2 c2).2.2 c1)⟩⟩⟩⟩
set_option maxRecDepth 100000 in
theorem go_X6_told_56 {nc : Nat} {C : tf_C} {Q : tf_Q} {h : LH} (hn : 270 ≤ nc) {x1 : Int32} {x2 : Int32} (q : Q (.int ((-1))) h) : lx_X6_told nc C Q 56 [.ref (244), .int (x1), .int (x2)] [] h := by
  refine tf_LW_go ?_
  exact ⟨(by first | trivial | rfl), q⟩
set_option maxRecDepth 100000 in
theorem go_X6_told_58 {nc : Nat} {C : tf_C} {Q : tf_Q} {h : LH} (hn : 270 ≤ nc) {x1 : Int32} {x2 : Int32} (q : (vp_in (((x1 * 7) + x2) - 10) 98) ∧ Q (.int (h.1 247 (((x1 * 7) + x2) - 10 : Int32).toNatClampNeg)) h) : lx_X6_told nc C Q 58 [.ref (244), .int (x1), .int (x2)] [] h := by
  refine tf_LW_go ?_
  exact ⟨⟨(by first | rfl | trivial), (show 244 < nc by omega)⟩, ⟨⟨(by first | rfl | trivial), (show 247 < nc by omega), q.1⟩, ⟨(by first | trivial | rfl), q.2⟩⟩⟩
abbrev lx_X6_start (nc : Nat) (C : tf_C) (Q : tf_Q) : tf_X := tf_LW nc C (tf_F 5) (tf_M 5) (tf_I 5) (tf_Eh 176) 1 tb_X6_start Q
set_option maxRecDepth 100000 in
theorem go_X6_start_0 {nc : Nat} {C : tf_C} {Q : tf_Q} {h : LH} (hn : 270 ≤ nc) {x1 : Nat} (Kx1_0 : tf_K x1 = 0) (q : lx_X6_start nc C Q 2 [.ref (244), .ref (x1), .int (0)] [] h) : lx_X6_start nc C Q 0 [.ref (244), .ref (x1), tf_z] [] h := by
  obtain ⟨Bx1, ⟨Kx1_1, Kx1_2, Kx1_3, Kx1_4, Kx1_5, Kx1_6, Kx1_7, Kx1_8, Kx1_9, Kx1_10, Kx1_11, Kx1_12, Kx1_13, Kx1_14⟩, ⟨Nx1_1, Nx1_2, Nx1_3, Nx1_4, Nx1_5, Nx1_6, Nx1_7, Nx1_8, Nx1_9, Nx1_10, Nx1_12, Nx1_13, Nx1_14⟩⟩ := tn_net Kx1_0
  refine tf_LW_go ?_
  exact q
theorem en_X6_start {nc d : Nat} {Q : tf_Q} {h : LH} (hn : 270 ≤ nc) {x1 : Nat} (Kx1_0 : tf_K x1 = 0) (q : lx_X6_start nc (tf_Cd nc d) Q 0 [.ref (244), .ref (x1), tf_z] [] h) : tf_Cd nc (d + 1) 176 [.ref (244), .ref (x1)] h Q := by
  obtain ⟨Bx1, ⟨Kx1_1, Kx1_2, Kx1_3, Kx1_4, Kx1_5, Kx1_6, Kx1_7, Kx1_8, Kx1_9, Kx1_10, Kx1_11, Kx1_12, Kx1_13, Kx1_14⟩, ⟨Nx1_1, Nx1_2, Nx1_3, Nx1_4, Nx1_5, Nx1_6, Nx1_7, Nx1_8, Nx1_9, Nx1_10, Nx1_12, Nx1_13, Nx1_14⟩⟩ := tn_net Kx1_0
  exact ⟨⟨Nat.le_of_ble_eq_true rfl, Or.inr ⟨rfl, (show 244 < nc by omega)⟩⟩, q⟩
set_option maxRecDepth 100000 in
theorem go_X6_start_2 {nc : Nat} {C : tf_C} {Q : tf_Q} {h : LH} (hn : 270 ≤ nc) {x1 : Nat} {x2 : Int32} (Kx1_0 : tf_K x1 = 0) (q : ((h.1 x1 0) ≤ x2 → lx_X6_start nc C Q 27 [.ref (244), .ref (x1), .int (x2)] [] h) ∧ (¬ (h.1 x1 0) ≤ x2 → C 177 [.ref (244), .ref (x1), .int (x2)] h (fun r g => lx_X6_start nc C Q 16 [.ref (244), .ref (x1), .int (x2)] (r :: []) g))) : lx_X6_start nc C Q 2 [.ref (244), .ref (x1), .int (x2)] [] h := by
  obtain ⟨Bx1, ⟨Kx1_1, Kx1_2, Kx1_3, Kx1_4, Kx1_5, Kx1_6, Kx1_7, Kx1_8, Kx1_9, Kx1_10, Kx1_11, Kx1_12, Kx1_13, Kx1_14⟩, ⟨Nx1_1, Nx1_2, Nx1_3, Nx1_4, Nx1_5, Nx1_6, Nx1_7, Nx1_8, Nx1_9, Nx1_10, Nx1_12, Nx1_13, Nx1_14⟩⟩ := tn_net Kx1_0
  refine tf_LW_go ?_
  exact ⟨⟨Kx1_0, (show x1 < nc by omega)⟩, ⟨q.1, fun c1 => ⟨Nat.le_of_ble_eq_true rfl, Nat.le_of_ble_eq_true rfl, (q.2 c1)⟩⟩⟩
set_option maxRecDepth 100000 in
theorem go_X6_start_16 {nc : Nat} {C : tf_C} {Q : tf_Q} {h : LH} (hn : 270 ≤ nc) {x1 : Nat} {x2 : Int32} {y0 : Int32} (Kx1_0 : tf_K x1 = 0) (q : (y0 ≤ (0 : Int32) → lx_X6_start nc C Q 21 [.ref (244), .ref (x1), .int (x2)] [] h) ∧ (¬ y0 ≤ (0 : Int32) → Q (.int (x2)) h)) : lx_X6_start nc C Q 16 [.ref (244), .ref (x1), .int (x2)] [.int (y0)] h := by
  obtain ⟨Bx1, ⟨Kx1_1, Kx1_2, Kx1_3, Kx1_4, Kx1_5, Kx1_6, Kx1_7, Kx1_8, Kx1_9, Kx1_10, Kx1_11, Kx1_12, Kx1_13, Kx1_14⟩, ⟨Nx1_1, Nx1_2, Nx1_3, Nx1_4, Nx1_5, Nx1_6, Nx1_7, Nx1_8, Nx1_9, Nx1_10, Nx1_12, Nx1_13, Nx1_14⟩⟩ := tn_net Kx1_0
  refine tf_LW_go ?_
  exact ⟨q.1, fun c1 => ⟨(by first | trivial | rfl), (q.2 c1)⟩⟩
set_option maxRecDepth 100000 in
theorem go_X6_start_21 {nc : Nat} {C : tf_C} {Q : tf_Q} {h : LH} (hn : 270 ≤ nc) {x1 : Nat} {x2 : Int32} (Kx1_0 : tf_K x1 = 0) (q : lx_X6_start nc C Q 2 [.ref (244), .ref (x1), .int (x2 + 1)] [] h) : lx_X6_start nc C Q 21 [.ref (244), .ref (x1), .int (x2)] [] h := by
  obtain ⟨Bx1, ⟨Kx1_1, Kx1_2, Kx1_3, Kx1_4, Kx1_5, Kx1_6, Kx1_7, Kx1_8, Kx1_9, Kx1_10, Kx1_11, Kx1_12, Kx1_13, Kx1_14⟩, ⟨Nx1_1, Nx1_2, Nx1_3, Nx1_4, Nx1_5, Nx1_6, Nx1_7, Nx1_8, Nx1_9, Nx1_10, Nx1_12, Nx1_13, Nx1_14⟩⟩ := tn_net Kx1_0
  refine tf_LW_go ?_
  exact q
set_option maxRecDepth 100000 in
theorem go_X6_start_27 {nc : Nat} {C : tf_C} {Q : tf_Q} {h : LH} (hn : 270 ≤ nc) {x1 : Nat} {x2 : Int32} (Kx1_0 : tf_K x1 = 0) (q : lx_X6_start nc C Q 29 [.ref (244), .ref (x1), .int (0)] [] h) : lx_X6_start nc C Q 27 [.ref (244), .ref (x1), .int (x2)] [] h := by
  obtain ⟨Bx1, ⟨Kx1_1, Kx1_2, Kx1_3, Kx1_4, Kx1_5, Kx1_6, Kx1_7, Kx1_8, Kx1_9, Kx1_10, Kx1_11, Kx1_12, Kx1_13, Kx1_14⟩, ⟨Nx1_1, Nx1_2, Nx1_3, Nx1_4, Nx1_5, Nx1_6, Nx1_7, Nx1_8, Nx1_9, Nx1_10, Nx1_12, Nx1_13, Nx1_14⟩⟩ := tn_net Kx1_0
  refine tf_LW_go ?_
  exact q
set_option maxRecDepth 100000 in
theorem go_X6_start_29 {nc : Nat} {C : tf_C} {Q : tf_Q} {h : LH} (hn : 270 ≤ nc) {x1 : Nat} {x2 : Int32} (Kx1_0 : tf_K x1 = 0) (q : ((h.1 x1 0) ≤ x2 → lx_X6_start nc C Q 55 [.ref (244), .ref (x1), .int (x2)] [] h) ∧ (¬ (h.1 x1 0) ≤ x2 → C 178 [.ref (244), .ref (x1), .int (x2)] h (fun r g => lx_X6_start nc C Q 43 [.ref (244), .ref (x1), .int (x2)] (r :: []) g))) : lx_X6_start nc C Q 29 [.ref (244), .ref (x1), .int (x2)] [] h := by
  obtain ⟨Bx1, ⟨Kx1_1, Kx1_2, Kx1_3, Kx1_4, Kx1_5, Kx1_6, Kx1_7, Kx1_8, Kx1_9, Kx1_10, Kx1_11, Kx1_12, Kx1_13, Kx1_14⟩, ⟨Nx1_1, Nx1_2, Nx1_3, Nx1_4, Nx1_5, Nx1_6, Nx1_7, Nx1_8, Nx1_9, Nx1_10, Nx1_12, Nx1_13, Nx1_14⟩⟩ := tn_net Kx1_0
  refine tf_LW_go ?_
  exact ⟨⟨Kx1_0, (show x1 < nc by omega)⟩, ⟨q.1, fun c1 => ⟨Nat.le_of_ble_eq_true rfl, Nat.le_of_ble_eq_true rfl, (q.2 c1)⟩⟩⟩
set_option maxRecDepth 100000 in
theorem go_X6_start_43 {nc : Nat} {C : tf_C} {Q : tf_Q} {h : LH} (hn : 270 ≤ nc) {x1 : Nat} {x2 : Int32} {y0 : Int32} (Kx1_0 : tf_K x1 = 0) (q : (y0 = ((-1) : Int32) → lx_X6_start nc C Q 49 [.ref (244), .ref (x1), .int (x2)] [] h) ∧ (¬ y0 = ((-1) : Int32) → Q (.int (x2)) h)) : lx_X6_start nc C Q 43 [.ref (244), .ref (x1), .int (x2)] [.int (y0)] h := by
  obtain ⟨Bx1, ⟨Kx1_1, Kx1_2, Kx1_3, Kx1_4, Kx1_5, Kx1_6, Kx1_7, Kx1_8, Kx1_9, Kx1_10, Kx1_11, Kx1_12, Kx1_13, Kx1_14⟩, ⟨Nx1_1, Nx1_2, Nx1_3, Nx1_4, Nx1_5, Nx1_6, Nx1_7, Nx1_8, Nx1_9, Nx1_10, Nx1_12, Nx1_13, Nx1_14⟩⟩ := tn_net Kx1_0
  refine tf_LW_go ?_
  exact ⟨q.1, fun c1 => ⟨(by first | trivial | rfl), (q.2 c1)⟩⟩
set_option maxRecDepth 100000 in
theorem go_X6_start_49 {nc : Nat} {C : tf_C} {Q : tf_Q} {h : LH} (hn : 270 ≤ nc) {x1 : Nat} {x2 : Int32} (Kx1_0 : tf_K x1 = 0) (q : lx_X6_start nc C Q 29 [.ref (244), .ref (x1), .int (x2 + 1)] [] h) : lx_X6_start nc C Q 49 [.ref (244), .ref (x1), .int (x2)] [] h := by
  obtain ⟨Bx1, ⟨Kx1_1, Kx1_2, Kx1_3, Kx1_4, Kx1_5, Kx1_6, Kx1_7, Kx1_8, Kx1_9, Kx1_10, Kx1_11, Kx1_12, Kx1_13, Kx1_14⟩, ⟨Nx1_1, Nx1_2, Nx1_3, Nx1_4, Nx1_5, Nx1_6, Nx1_7, Nx1_8, Nx1_9, Nx1_10, Nx1_12, Nx1_13, Nx1_14⟩⟩ := tn_net Kx1_0
  refine tf_LW_go ?_
  exact q
set_option maxRecDepth 100000 in
theorem go_X6_start_55 {nc : Nat} {C : tf_C} {Q : tf_Q} {h : LH} (hn : 270 ≤ nc) {x1 : Nat} {x2 : Int32} (Kx1_0 : tf_K x1 = 0) (q : Q (.int ((-1))) h) : lx_X6_start nc C Q 55 [.ref (244), .ref (x1), .int (x2)] [] h := by
  obtain ⟨Bx1, ⟨Kx1_1, Kx1_2, Kx1_3, Kx1_4, Kx1_5, Kx1_6, Kx1_7, Kx1_8, Kx1_9, Kx1_10, Kx1_11, Kx1_12, Kx1_13, Kx1_14⟩, ⟨Nx1_1, Nx1_2, Nx1_3, Nx1_4, Nx1_5, Nx1_6, Nx1_7, Nx1_8, Nx1_9, Nx1_10, Nx1_12, Nx1_13, Nx1_14⟩⟩ := tn_net Kx1_0
  refine tf_LW_go ?_
  exact ⟨(by first | trivial | rfl), q⟩
abbrev lx_X6_surplus (nc : Nat) (C : tf_C) (Q : tf_Q) : tf_X := tf_LW nc C (tf_F 5) (tf_M 5) (tf_I 5) (tf_Eh 177) 1 tb_X6_surplus Q
set_option maxRecDepth 100000 in
theorem go_X6_surplus_0 {nc : Nat} {C : tf_C} {Q : tf_Q} {h : LH} (hn : 270 ≤ nc) {x1 : Nat} {x2 : Int32} (Kx1_0 : tf_K x1 = 0) (q : lx_X6_surplus nc C Q 5 [.ref (244), .ref (x1), .int (x2), .int (0), .int (0)] [] h) : lx_X6_surplus nc C Q 0 [.ref (244), .ref (x1), .int (x2), tf_z, tf_z] [] h := by
  obtain ⟨Bx1, ⟨Kx1_1, Kx1_2, Kx1_3, Kx1_4, Kx1_5, Kx1_6, Kx1_7, Kx1_8, Kx1_9, Kx1_10, Kx1_11, Kx1_12, Kx1_13, Kx1_14⟩, ⟨Nx1_1, Nx1_2, Nx1_3, Nx1_4, Nx1_5, Nx1_6, Nx1_7, Nx1_8, Nx1_9, Nx1_10, Nx1_12, Nx1_13, Nx1_14⟩⟩ := tn_net Kx1_0
  refine tf_LW_go ?_
  exact q
theorem en_X6_surplus {nc d : Nat} {Q : tf_Q} {h : LH} (hn : 270 ≤ nc) {x1 : Nat} {x2 : Int32} (Kx1_0 : tf_K x1 = 0) (q : lx_X6_surplus nc (tf_Cd nc d) Q 0 [.ref (244), .ref (x1), .int (x2), tf_z, tf_z] [] h) : tf_Cd nc (d + 1) 177 [.ref (244), .ref (x1), .int (x2)] h Q := by
  obtain ⟨Bx1, ⟨Kx1_1, Kx1_2, Kx1_3, Kx1_4, Kx1_5, Kx1_6, Kx1_7, Kx1_8, Kx1_9, Kx1_10, Kx1_11, Kx1_12, Kx1_13, Kx1_14⟩, ⟨Nx1_1, Nx1_2, Nx1_3, Nx1_4, Nx1_5, Nx1_6, Nx1_7, Nx1_8, Nx1_9, Nx1_10, Nx1_12, Nx1_13, Nx1_14⟩⟩ := tn_net Kx1_0
  exact ⟨⟨Nat.le_of_ble_eq_true rfl, Or.inr ⟨rfl, (show 244 < nc by omega)⟩⟩, q⟩
set_option maxRecDepth 100000 in
theorem go_X6_surplus_5 {nc : Nat} {C : tf_C} {Q : tf_Q} {h : LH} (hn : 270 ≤ nc) {x1 : Nat} {x2 : Int32} {x3 : Int32} {x4 : Int32} (Kx1_0 : tf_K x1 = 0) (q : ((h.1 x1 1) ≤ x4 → lx_X6_surplus nc C Q 65 [.ref (244), .ref (x1), .int (x2), .int (x3), .int (x4)] [] h) ∧ (¬ (h.1 x1 1) ≤ x4 → (vp_in x4 21) ∧ ((h.1 (x1 + 2) (x4 : Int32).toNatClampNeg) = x2 → (vp_in x4 14) ∧ lx_X6_surplus nc C Q 59 [.ref (244), .ref (x1), .int (x2), .int (x3 + (h.1 248 (x4 : Int32).toNatClampNeg)), .int (x4)] [] h) ∧ (¬ (h.1 (x1 + 2) (x4 : Int32).toNatClampNeg) = x2 → lx_X6_surplus nc C Q 38 [.ref (244), .ref (x1), .int (x2), .int (x3), .int (x4)] [] h))) : lx_X6_surplus nc C Q 5 [.ref (244), .ref (x1), .int (x2), .int (x3), .int (x4)] [] h := by
  obtain ⟨Bx1, ⟨Kx1_1, Kx1_2, Kx1_3, Kx1_4, Kx1_5, Kx1_6, Kx1_7, Kx1_8, Kx1_9, Kx1_10, Kx1_11, Kx1_12, Kx1_13, Kx1_14⟩, ⟨Nx1_1, Nx1_2, Nx1_3, Nx1_4, Nx1_5, Nx1_6, Nx1_7, Nx1_8, Nx1_9, Nx1_10, Nx1_12, Nx1_13, Nx1_14⟩⟩ := tn_net Kx1_0
  refine tf_LW_go ?_
  show (tf_K x1 = 0 ∧ x1 < nc) ∧ ((h.1 x1 1) ≤ x4 → lx_X6_surplus nc C Q 65 [.ref (244), .ref (x1), .int (x2), .int (x3), .int (x4)] [] h) ∧ (¬ (h.1 x1 1) ≤ x4 → (tf_K x1 = 0 ∧ x1 < nc) ∧ (tf_K (tf_R x1 4) = 8 ∧ (tf_R x1 4) < nc ∧ vp_in x4 (tf_N (tf_R x1 4))) ∧ ((h.1 (tf_R x1 4) (x4 : Int32).toNatClampNeg) = x2 → (tf_K 244 = 5 ∧ 244 < nc) ∧ (tf_K 248 = 8 ∧ 248 < nc ∧ vp_in x4 14) ∧ lx_X6_surplus nc C Q 59 [.ref (244), .ref (x1), .int (x2), .int (x3 + (h.1 248 (x4 : Int32).toNatClampNeg)), .int (x4)] [] h) ∧ (¬ (h.1 (tf_R x1 4) (x4 : Int32).toNatClampNeg) = x2 → lx_X6_surplus nc C Q 38 [.ref (244), .ref (x1), .int (x2), .int (x3), .int (x4)] [] h))
  try simp only [(show tf_R x1 4 = x1 + 2 by rw [tn_R0 Kx1_0]; try omega), Nx1_2]
  exact ⟨⟨Kx1_0, (show x1 < nc by omega)⟩, ⟨q.1, fun c2 => ⟨⟨Kx1_0, (show x1 < nc by omega)⟩, ⟨⟨Kx1_2, (show x1 + 2 < nc by omega), (q.2 c2).1⟩, ⟨fun c1 => ⟨⟨(by first | rfl | trivial), (show 244 < nc by omega)⟩, ⟨⟨(by first | rfl | trivial), (show 248 < nc by omega), ((q.2 c2).2.1 c1).1⟩, ((q.2 c2).2.1 c1).2⟩⟩, (q.2 c2).2.2⟩⟩⟩⟩⟩
set_option maxRecDepth 100000 in
theorem go_X6_surplus_38 {nc : Nat} {C : tf_C} {Q : tf_Q} {h : LH} (hn : 270 ≤ nc) {x1 : Nat} {x2 : Int32} {x3 : Int32} {x4 : Int32} (Kx1_0 : tf_K x1 = 0) (q : (vp_in x4 21) ∧ ((h.1 (x1 + 3) (x4 : Int32).toNatClampNeg) = x2 → (vp_in x4 14) ∧ lx_X6_surplus nc C Q 59 [.ref (244), .ref (x1), .int (x2), .int (x3 - (h.1 248 (x4 : Int32).toNatClampNeg)), .int (x4)] [] h) ∧ (¬ (h.1 (x1 + 3) (x4 : Int32).toNatClampNeg) = x2 → lx_X6_surplus nc C Q 59 [.ref (244), .ref (x1), .int (x2), .int (x3), .int (x4)] [] h)) : lx_X6_surplus nc C Q 38 [.ref (244), .ref (x1), .int (x2), .int (x3), .int (x4)] [] h := by
  obtain ⟨Bx1, ⟨Kx1_1, Kx1_2, Kx1_3, Kx1_4, Kx1_5, Kx1_6, Kx1_7, Kx1_8, Kx1_9, Kx1_10, Kx1_11, Kx1_12, Kx1_13, Kx1_14⟩, ⟨Nx1_1, Nx1_2, Nx1_3, Nx1_4, Nx1_5, Nx1_6, Nx1_7, Nx1_8, Nx1_9, Nx1_10, Nx1_12, Nx1_13, Nx1_14⟩⟩ := tn_net Kx1_0
  refine tf_LW_go ?_
  show (tf_K x1 = 0 ∧ x1 < nc) ∧ (tf_K (tf_R x1 5) = 8 ∧ (tf_R x1 5) < nc ∧ vp_in x4 (tf_N (tf_R x1 5))) ∧ ((h.1 (tf_R x1 5) (x4 : Int32).toNatClampNeg) = x2 → (tf_K 244 = 5 ∧ 244 < nc) ∧ (tf_K 248 = 8 ∧ 248 < nc ∧ vp_in x4 14) ∧ lx_X6_surplus nc C Q 59 [.ref (244), .ref (x1), .int (x2), .int (x3 - (h.1 248 (x4 : Int32).toNatClampNeg)), .int (x4)] [] h) ∧ (¬ (h.1 (tf_R x1 5) (x4 : Int32).toNatClampNeg) = x2 → lx_X6_surplus nc C Q 59 [.ref (244), .ref (x1), .int (x2), .int (x3), .int (x4)] [] h)
  try simp only [(show tf_R x1 5 = x1 + 3 by rw [tn_R0 Kx1_0]; try omega), Nx1_3]
  exact ⟨⟨Kx1_0, (show x1 < nc by omega)⟩, ⟨⟨Kx1_3, (show x1 + 3 < nc by omega), q.1⟩, ⟨fun c1 => ⟨⟨(by first | rfl | trivial), (show 244 < nc by omega)⟩, ⟨⟨(by first | rfl | trivial), (show 248 < nc by omega), (q.2.1 c1).1⟩, (q.2.1 c1).2⟩⟩, q.2.2⟩⟩⟩
set_option maxRecDepth 100000 in
theorem go_X6_surplus_59 {nc : Nat} {C : tf_C} {Q : tf_Q} {h : LH} (hn : 270 ≤ nc) {x1 : Nat} {x2 : Int32} {x3 : Int32} {x4 : Int32} (Kx1_0 : tf_K x1 = 0) (q : lx_X6_surplus nc C Q 5 [.ref (244), .ref (x1), .int (x2), .int (x3), .int (x4 + 1)] [] h) : lx_X6_surplus nc C Q 59 [.ref (244), .ref (x1), .int (x2), .int (x3), .int (x4)] [] h := by
  obtain ⟨Bx1, ⟨Kx1_1, Kx1_2, Kx1_3, Kx1_4, Kx1_5, Kx1_6, Kx1_7, Kx1_8, Kx1_9, Kx1_10, Kx1_11, Kx1_12, Kx1_13, Kx1_14⟩, ⟨Nx1_1, Nx1_2, Nx1_3, Nx1_4, Nx1_5, Nx1_6, Nx1_7, Nx1_8, Nx1_9, Nx1_10, Nx1_12, Nx1_13, Nx1_14⟩⟩ := tn_net Kx1_0
  refine tf_LW_go ?_
  exact q
set_option maxRecDepth 100000 in
theorem go_X6_surplus_65 {nc : Nat} {C : tf_C} {Q : tf_Q} {h : LH} (hn : 270 ≤ nc) {x1 : Nat} {x2 : Int32} {x3 : Int32} {x4 : Int32} (Kx1_0 : tf_K x1 = 0) (q : Q (.int (x3)) h) : lx_X6_surplus nc C Q 65 [.ref (244), .ref (x1), .int (x2), .int (x3), .int (x4)] [] h := by
  obtain ⟨Bx1, ⟨Kx1_1, Kx1_2, Kx1_3, Kx1_4, Kx1_5, Kx1_6, Kx1_7, Kx1_8, Kx1_9, Kx1_10, Kx1_11, Kx1_12, Kx1_13, Kx1_14⟩, ⟨Nx1_1, Nx1_2, Nx1_3, Nx1_4, Nx1_5, Nx1_6, Nx1_7, Nx1_8, Nx1_9, Nx1_10, Nx1_12, Nx1_13, Nx1_14⟩⟩ := tn_net Kx1_0
  refine tf_LW_go ?_
  exact ⟨(by first | trivial | rfl), q⟩
abbrev lx_X6_arcOut (nc : Nat) (C : tf_C) (Q : tf_Q) : tf_X := tf_LW nc C (tf_F 5) (tf_M 5) (tf_I 5) (tf_Eh 178) 1 tb_X6_arcOut Q
set_option maxRecDepth 100000 in
theorem go_X6_arcOut_0 {nc : Nat} {C : tf_C} {Q : tf_Q} {h : LH} (hn : 270 ≤ nc) {x1 : Nat} {x2 : Int32} (Kx1_0 : tf_K x1 = 0) (q : lx_X6_arcOut nc C Q 2 [.ref (244), .ref (x1), .int (x2), .int (0)] [] h) : lx_X6_arcOut nc C Q 0 [.ref (244), .ref (x1), .int (x2), tf_z] [] h := by
  obtain ⟨Bx1, ⟨Kx1_1, Kx1_2, Kx1_3, Kx1_4, Kx1_5, Kx1_6, Kx1_7, Kx1_8, Kx1_9, Kx1_10, Kx1_11, Kx1_12, Kx1_13, Kx1_14⟩, ⟨Nx1_1, Nx1_2, Nx1_3, Nx1_4, Nx1_5, Nx1_6, Nx1_7, Nx1_8, Nx1_9, Nx1_10, Nx1_12, Nx1_13, Nx1_14⟩⟩ := tn_net Kx1_0
  refine tf_LW_go ?_
  exact q
theorem en_X6_arcOut {nc d : Nat} {Q : tf_Q} {h : LH} (hn : 270 ≤ nc) {x1 : Nat} {x2 : Int32} (Kx1_0 : tf_K x1 = 0) (q : lx_X6_arcOut nc (tf_Cd nc d) Q 0 [.ref (244), .ref (x1), .int (x2), tf_z] [] h) : tf_Cd nc (d + 1) 178 [.ref (244), .ref (x1), .int (x2)] h Q := by
  obtain ⟨Bx1, ⟨Kx1_1, Kx1_2, Kx1_3, Kx1_4, Kx1_5, Kx1_6, Kx1_7, Kx1_8, Kx1_9, Kx1_10, Kx1_11, Kx1_12, Kx1_13, Kx1_14⟩, ⟨Nx1_1, Nx1_2, Nx1_3, Nx1_4, Nx1_5, Nx1_6, Nx1_7, Nx1_8, Nx1_9, Nx1_10, Nx1_12, Nx1_13, Nx1_14⟩⟩ := tn_net Kx1_0
  exact ⟨⟨Nat.le_of_ble_eq_true rfl, Or.inr ⟨rfl, (show 244 < nc by omega)⟩⟩, q⟩
set_option maxRecDepth 100000 in
theorem go_X6_arcOut_2 {nc : Nat} {C : tf_C} {Q : tf_Q} {h : LH} (hn : 270 ≤ nc) {x1 : Nat} {x2 : Int32} {x3 : Int32} (Kx1_0 : tf_K x1 = 0) (q : ((h.1 x1 1) ≤ x3 → lx_X6_arcOut nc C Q 37 [.ref (244), .ref (x1), .int (x2), .int (x3)] [] h) ∧ (¬ (h.1 x1 1) ≤ x3 → (vp_in x3 21) ∧ ((h.1 (x1 + 2) (x3 : Int32).toNatClampNeg) = x2 → (vp_in x3 14) ∧ ((h.1 248 (x3 : Int32).toNatClampNeg) ≤ (0 : Int32) → lx_X6_arcOut nc C Q 31 [.ref (244), .ref (x1), .int (x2), .int (x3)] [] h) ∧ (¬ (h.1 248 (x3 : Int32).toNatClampNeg) ≤ (0 : Int32) → Q (.int (x3)) h)) ∧ (¬ (h.1 (x1 + 2) (x3 : Int32).toNatClampNeg) = x2 → lx_X6_arcOut nc C Q 31 [.ref (244), .ref (x1), .int (x2), .int (x3)] [] h))) : lx_X6_arcOut nc C Q 2 [.ref (244), .ref (x1), .int (x2), .int (x3)] [] h := by
  obtain ⟨Bx1, ⟨Kx1_1, Kx1_2, Kx1_3, Kx1_4, Kx1_5, Kx1_6, Kx1_7, Kx1_8, Kx1_9, Kx1_10, Kx1_11, Kx1_12, Kx1_13, Kx1_14⟩, ⟨Nx1_1, Nx1_2, Nx1_3, Nx1_4, Nx1_5, Nx1_6, Nx1_7, Nx1_8, Nx1_9, Nx1_10, Nx1_12, Nx1_13, Nx1_14⟩⟩ := tn_net Kx1_0
  refine tf_LW_go ?_
  show (tf_K x1 = 0 ∧ x1 < nc) ∧ ((h.1 x1 1) ≤ x3 → lx_X6_arcOut nc C Q 37 [.ref (244), .ref (x1), .int (x2), .int (x3)] [] h) ∧ (¬ (h.1 x1 1) ≤ x3 → (tf_K x1 = 0 ∧ x1 < nc) ∧ (tf_K (tf_R x1 4) = 8 ∧ (tf_R x1 4) < nc ∧ vp_in x3 (tf_N (tf_R x1 4))) ∧ ((h.1 (tf_R x1 4) (x3 : Int32).toNatClampNeg) = x2 → (tf_K 244 = 5 ∧ 244 < nc) ∧ (tf_K 248 = 8 ∧ 248 < nc ∧ vp_in x3 14) ∧ ((h.1 248 (x3 : Int32).toNatClampNeg) ≤ (0 : Int32) → lx_X6_arcOut nc C Q 31 [.ref (244), .ref (x1), .int (x2), .int (x3)] [] h) ∧ (¬ (h.1 248 (x3 : Int32).toNatClampNeg) ≤ (0 : Int32) → tf_rb 1 (x3) ∧ Q (.int (x3)) h)) ∧ (¬ (h.1 (tf_R x1 4) (x3 : Int32).toNatClampNeg) = x2 → lx_X6_arcOut nc C Q 31 [.ref (244), .ref (x1), .int (x2), .int (x3)] [] h))
  try simp only [(show tf_R x1 4 = x1 + 2 by rw [tn_R0 Kx1_0]; try omega), Nx1_2]
  exact ⟨⟨Kx1_0, (show x1 < nc by omega)⟩, ⟨q.1, fun c3 => ⟨⟨Kx1_0, (show x1 < nc by omega)⟩, ⟨⟨Kx1_2, (show x1 + 2 < nc by omega), (q.2 c3).1⟩, ⟨fun c2 => ⟨⟨(by first | rfl | trivial), (show 244 < nc by omega)⟩, ⟨⟨(by first | rfl | trivial), (show 248 < nc by omega), ((q.2 c3).2.1 c2).1⟩, ⟨((q.2 c3).2.1 c2).2.1, fun c1 => ⟨(by first | trivial | rfl), (((q.2 c3).2.1 c2).2.2 c1)⟩⟩⟩⟩, (q.2 c3).2.2⟩⟩⟩⟩⟩
set_option maxRecDepth 100000 in
theorem go_X6_arcOut_31 {nc : Nat} {C : tf_C} {Q : tf_Q} {h : LH} (hn : 270 ≤ nc) {x1 : Nat} {x2 : Int32} {x3 : Int32} (Kx1_0 : tf_K x1 = 0) (q : lx_X6_arcOut nc C Q 2 [.ref (244), .ref (x1), .int (x2), .int (x3 + 1)] [] h) : lx_X6_arcOut nc C Q 31 [.ref (244), .ref (x1), .int (x2), .int (x3)] [] h := by
  obtain ⟨Bx1, ⟨Kx1_1, Kx1_2, Kx1_3, Kx1_4, Kx1_5, Kx1_6, Kx1_7, Kx1_8, Kx1_9, Kx1_10, Kx1_11, Kx1_12, Kx1_13, Kx1_14⟩, ⟨Nx1_1, Nx1_2, Nx1_3, Nx1_4, Nx1_5, Nx1_6, Nx1_7, Nx1_8, Nx1_9, Nx1_10, Nx1_12, Nx1_13, Nx1_14⟩⟩ := tn_net Kx1_0
  refine tf_LW_go ?_
  exact q
set_option maxRecDepth 100000 in
theorem go_X6_arcOut_37 {nc : Nat} {C : tf_C} {Q : tf_Q} {h : LH} (hn : 270 ≤ nc) {x1 : Nat} {x2 : Int32} {x3 : Int32} (Kx1_0 : tf_K x1 = 0) (q : Q (.int ((-1))) h) : lx_X6_arcOut nc C Q 37 [.ref (244), .ref (x1), .int (x2), .int (x3)] [] h := by
  obtain ⟨Bx1, ⟨Kx1_1, Kx1_2, Kx1_3, Kx1_4, Kx1_5, Kx1_6, Kx1_7, Kx1_8, Kx1_9, Kx1_10, Kx1_11, Kx1_12, Kx1_13, Kx1_14⟩, ⟨Nx1_1, Nx1_2, Nx1_3, Nx1_4, Nx1_5, Nx1_6, Nx1_7, Nx1_8, Nx1_9, Nx1_10, Nx1_12, Nx1_13, Nx1_14⟩⟩ := tn_net Kx1_0
  refine tf_LW_go ?_
  exact ⟨(by first | trivial | rfl), q⟩
abbrev lx_X6_go (nc : Nat) (C : tf_C) (Q : tf_Q) : tf_X := tf_LW nc C (tf_F 5) (tf_M 5) (tf_I 5) (tf_Eh 179) 0 tb_X6_go Q
set_option maxRecDepth 100000 in
theorem go_X6_go_0 {nc : Nat} {C : tf_C} {Q : tf_Q} {h : LH} (hn : 270 ≤ nc) {x1 : Nat} {x2 : Int32} (Kx1_0 : tf_K x1 = 0) (q : lx_X6_go nc C Q 2 [.ref (244), .ref (x1), .int (x2), .int (0), tf_z] [] h) : lx_X6_go nc C Q 0 [.ref (244), .ref (x1), .int (x2), tf_z, tf_z] [] h := by
  obtain ⟨Bx1, ⟨Kx1_1, Kx1_2, Kx1_3, Kx1_4, Kx1_5, Kx1_6, Kx1_7, Kx1_8, Kx1_9, Kx1_10, Kx1_11, Kx1_12, Kx1_13, Kx1_14⟩, ⟨Nx1_1, Nx1_2, Nx1_3, Nx1_4, Nx1_5, Nx1_6, Nx1_7, Nx1_8, Nx1_9, Nx1_10, Nx1_12, Nx1_13, Nx1_14⟩⟩ := tn_net Kx1_0
  refine tf_LW_go ?_
  exact q
theorem en_X6_go {nc d : Nat} {Q : tf_Q} {h : LH} (hn : 270 ≤ nc) {x1 : Nat} {x2 : Int32} (Kx1_0 : tf_K x1 = 0) (q : lx_X6_go nc (tf_Cd nc d) Q 0 [.ref (244), .ref (x1), .int (x2), tf_z, tf_z] [] h) : tf_Cd nc (d + 1) 179 [.ref (244), .ref (x1), .int (x2)] h Q := by
  obtain ⟨Bx1, ⟨Kx1_1, Kx1_2, Kx1_3, Kx1_4, Kx1_5, Kx1_6, Kx1_7, Kx1_8, Kx1_9, Kx1_10, Kx1_11, Kx1_12, Kx1_13, Kx1_14⟩, ⟨Nx1_1, Nx1_2, Nx1_3, Nx1_4, Nx1_5, Nx1_6, Nx1_7, Nx1_8, Nx1_9, Nx1_10, Nx1_12, Nx1_13, Nx1_14⟩⟩ := tn_net Kx1_0
  exact ⟨⟨Nat.le_of_ble_eq_true rfl, Or.inr ⟨rfl, (show 244 < nc by omega)⟩⟩, q⟩
set_option maxRecDepth 100000 in
theorem go_X6_go_2 {nc : Nat} {C : tf_C} {Q : tf_Q} {h : LH} (hn : 270 ≤ nc) {x1 : Nat} {x2 : Int32} {x3 : Int32} (Kx1_0 : tf_K x1 = 0) (q : ((7 : Int32) ≤ x3 → lx_X6_go nc C Q 21 [.ref (244), .ref (x1), .int (x2), .int (x3), tf_z] [] h) ∧ (¬ (7 : Int32) ≤ x3 → (vp_in x3 7) ∧ lx_X6_go nc C Q 2 [.ref (244), .ref (x1), .int (x2), .int (x3 + 1), tf_z] [] (tf_up h.1 250 (x3 : Int32).toNatClampNeg (-1), h.2))) : lx_X6_go nc C Q 2 [.ref (244), .ref (x1), .int (x2), .int (x3), tf_z] [] h := by
  obtain ⟨Bx1, ⟨Kx1_1, Kx1_2, Kx1_3, Kx1_4, Kx1_5, Kx1_6, Kx1_7, Kx1_8, Kx1_9, Kx1_10, Kx1_11, Kx1_12, Kx1_13, Kx1_14⟩, ⟨Nx1_1, Nx1_2, Nx1_3, Nx1_4, Nx1_5, Nx1_6, Nx1_7, Nx1_8, Nx1_9, Nx1_10, Nx1_12, Nx1_13, Nx1_14⟩⟩ := tn_net Kx1_0
  refine tf_LW_go ?_
  exact ⟨q.1, fun c1 => ⟨⟨(by first | rfl | trivial), (show 244 < nc by omega)⟩, ⟨⟨(by first | rfl | trivial), (show 250 < nc by omega), (q.2 c1).1⟩, (q.2 c1).2⟩⟩⟩
set_option maxRecDepth 100000 in
theorem go_X6_go_21 {nc : Nat} {C : tf_C} {Q : tf_Q} {h : LH} (hn : 270 ≤ nc) {x1 : Nat} {x2 : Int32} {x3 : Int32} (Kx1_0 : tf_K x1 = 0) (q : lx_X6_go nc C Q 33 [.ref (244), .ref (x1), .int (x2), .int (x2), tf_z] [] (tf_up (tf_up h.1 244 7 0) 244 8 0, h.2)) : lx_X6_go nc C Q 21 [.ref (244), .ref (x1), .int (x2), .int (x3), tf_z] [] h := by
  obtain ⟨Bx1, ⟨Kx1_1, Kx1_2, Kx1_3, Kx1_4, Kx1_5, Kx1_6, Kx1_7, Kx1_8, Kx1_9, Kx1_10, Kx1_11, Kx1_12, Kx1_13, Kx1_14⟩, ⟨Nx1_1, Nx1_2, Nx1_3, Nx1_4, Nx1_5, Nx1_6, Nx1_7, Nx1_8, Nx1_9, Nx1_10, Nx1_12, Nx1_13, Nx1_14⟩⟩ := tn_net Kx1_0
  refine tf_LW_go ?_
  exact ⟨⟨(by first | rfl | trivial), (show 244 < nc by omega), (by first | rfl | trivial)⟩, ⟨⟨(by first | rfl | trivial), (show 244 < nc by omega), (by first | rfl | trivial)⟩, q⟩⟩
set_option maxRecDepth 100000 in
theorem go_X6_go_33 {nc : Nat} {C : tf_C} {Q : tf_Q} {h : LH} (hn : 270 ≤ nc) {x1 : Nat} {x2 : Int32} {x3 : Int32} {x4 : Value} (Kx1_0 : tf_K x1 = 0) (q : ((7 : Int32) ≤ (h.1 244 7) → lx_X6_go nc C Q 120 [.ref (244), .ref (x1), .int (x2), .int (x3), x4] [] h) ∧ (¬ (7 : Int32) ≤ (h.1 244 7) → (vp_in x3 7) ∧ C 178 [.ref (244), .ref (x1), .int (x3)] (tf_up h.1 250 (x3 : Int32).toNatClampNeg (h.1 244 7), h.2) (fun r g => lx_X6_go nc C Q 58 [.ref (244), .ref (x1), .int (x2), .int (x3), x4] (r :: []) g))) : lx_X6_go nc C Q 33 [.ref (244), .ref (x1), .int (x2), .int (x3), x4] [] h := by
  obtain ⟨Bx1, ⟨Kx1_1, Kx1_2, Kx1_3, Kx1_4, Kx1_5, Kx1_6, Kx1_7, Kx1_8, Kx1_9, Kx1_10, Kx1_11, Kx1_12, Kx1_13, Kx1_14⟩, ⟨Nx1_1, Nx1_2, Nx1_3, Nx1_4, Nx1_5, Nx1_6, Nx1_7, Nx1_8, Nx1_9, Nx1_10, Nx1_12, Nx1_13, Nx1_14⟩⟩ := tn_net Kx1_0
  refine tf_LW_go ?_
  exact ⟨⟨(by first | rfl | trivial), (show 244 < nc by omega)⟩, ⟨q.1, fun c1 => ⟨⟨(by first | rfl | trivial), (show 244 < nc by omega)⟩, ⟨⟨(by first | rfl | trivial), (show 244 < nc by omega)⟩, ⟨⟨(by first | rfl | trivial), (show 250 < nc by omega), (q.2 c1).1⟩, ⟨Nat.le_of_ble_eq_true rfl, Nat.le_of_ble_eq_true rfl, (q.2 c1).2⟩⟩⟩⟩⟩⟩
set_option maxRecDepth 100000 in
theorem go_X6_go_58 {nc : Nat} {C : tf_C} {Q : tf_Q} {h : LH} (hn : 270 ≤ nc) {x1 : Nat} {x2 : Int32} {x3 : Int32} {x4 : Value} {y0 : Int32} (Kx1_0 : tf_K x1 = 0) (q : (y0 = ((-1) : Int32) → Q tf_z h) ∧ (¬ y0 = ((-1) : Int32) → lx_X6_go nc C Q 67 [.ref (244), .ref (x1), .int (x2), .int (x3), .int (y0)] [] h)) : lx_X6_go nc C Q 58 [.ref (244), .ref (x1), .int (x2), .int (x3), x4] [.int (y0)] h := by
  obtain ⟨Bx1, ⟨Kx1_1, Kx1_2, Kx1_3, Kx1_4, Kx1_5, Kx1_6, Kx1_7, Kx1_8, Kx1_9, Kx1_10, Kx1_11, Kx1_12, Kx1_13, Kx1_14⟩, ⟨Nx1_1, Nx1_2, Nx1_3, Nx1_4, Nx1_5, Nx1_6, Nx1_7, Nx1_8, Nx1_9, Nx1_10, Nx1_12, Nx1_13, Nx1_14⟩⟩ := tn_net Kx1_0
  refine tf_LW_go ?_
  exact ⟨fun c1 => ⟨(by first | rfl | trivial), (q.1 c1)⟩, q.2⟩
set_option maxRecDepth 100000 in
theorem go_X6_go_67 {nc : Nat} {C : tf_C} {Q : tf_Q} {h : LH} (hn : 270 ≤ nc) {x1 : Nat} {x2 : Int32} {x3 : Int32} {x4 : Int32} (Kx1_0 : tf_K x1 = 0) (q : (vp_in (h.1 244 7) 7) ∧ (vp_in x4 21) ∧ (vp_in ((tf_up (tf_up h.1 249 (h.1 244 7 : Int32).toNatClampNeg x4) 244 7 (((tf_up h.1 249 (h.1 244 7 : Int32).toNatClampNeg x4) 244 7) + 1)) (x1 + 3) (x4 : Int32).toNatClampNeg) 7) ∧ (((tf_up (tf_up h.1 249 (h.1 244 7 : Int32).toNatClampNeg x4) 244 7 (((tf_up h.1 249 (h.1 244 7 : Int32).toNatClampNeg x4) 244 7) + 1)) 250 ((tf_up (tf_up h.1 249 (h.1 244 7 : Int32).toNatClampNeg x4) 244 7 (((tf_up h.1 249 (h.1 244 7 : Int32).toNatClampNeg x4) 244 7) + 1)) (x1 + 3) (x4 : Int32).toNatClampNeg : Int32).toNatClampNeg) = ((-1) : Int32) → lx_X6_go nc C Q 117 [.ref (244), .ref (x1), .int (x2), .int ((tf_up (tf_up h.1 249 (h.1 244 7 : Int32).toNatClampNeg x4) 244 7 (((tf_up h.1 249 (h.1 244 7 : Int32).toNatClampNeg x4) 244 7) + 1)) (x1 + 3) (x4 : Int32).toNatClampNeg), .int (x4)] [] (tf_up (tf_up h.1 249 (h.1 244 7 : Int32).toNatClampNeg x4) 244 7 (((tf_up h.1 249 (h.1 244 7 : Int32).toNatClampNeg x4) 244 7) + 1), h.2)) ∧ (¬ ((tf_up (tf_up h.1 249 (h.1 244 7 : Int32).toNatClampNeg x4) 244 7 (((tf_up h.1 249 (h.1 244 7 : Int32).toNatClampNeg x4) 244 7) + 1)) 250 ((tf_up (tf_up h.1 249 (h.1 244 7 : Int32).toNatClampNeg x4) 244 7 (((tf_up h.1 249 (h.1 244 7 : Int32).toNatClampNeg x4) 244 7) + 1)) (x1 + 3) (x4 : Int32).toNatClampNeg : Int32).toNatClampNeg) = ((-1) : Int32) → (vp_in ((tf_up (tf_up h.1 249 (h.1 244 7 : Int32).toNatClampNeg x4) 244 7 (((tf_up h.1 249 (h.1 244 7 : Int32).toNatClampNeg x4) 244 7) + 1)) (x1 + 3) (x4 : Int32).toNatClampNeg) 7) ∧ Q tf_z (tf_up (tf_up (tf_up h.1 249 (h.1 244 7 : Int32).toNatClampNeg x4) 244 7 (((tf_up h.1 249 (h.1 244 7 : Int32).toNatClampNeg x4) 244 7) + 1)) 244 8 ((tf_up (tf_up h.1 249 (h.1 244 7 : Int32).toNatClampNeg x4) 244 7 (((tf_up h.1 249 (h.1 244 7 : Int32).toNatClampNeg x4) 244 7) + 1)) 250 ((tf_up (tf_up h.1 249 (h.1 244 7 : Int32).toNatClampNeg x4) 244 7 (((tf_up h.1 249 (h.1 244 7 : Int32).toNatClampNeg x4) 244 7) + 1)) (x1 + 3) (x4 : Int32).toNatClampNeg : Int32).toNatClampNeg), h.2))) : lx_X6_go nc C Q 67 [.ref (244), .ref (x1), .int (x2), .int (x3), .int (x4)] [] h := by
  obtain ⟨Bx1, ⟨Kx1_1, Kx1_2, Kx1_3, Kx1_4, Kx1_5, Kx1_6, Kx1_7, Kx1_8, Kx1_9, Kx1_10, Kx1_11, Kx1_12, Kx1_13, Kx1_14⟩, ⟨Nx1_1, Nx1_2, Nx1_3, Nx1_4, Nx1_5, Nx1_6, Nx1_7, Nx1_8, Nx1_9, Nx1_10, Nx1_12, Nx1_13, Nx1_14⟩⟩ := tn_net Kx1_0
  refine tf_LW_go ?_
  show (tf_K 244 = 5 ∧ 244 < nc) ∧ (tf_K 244 = 5 ∧ 244 < nc) ∧ (tf_K 249 = 8 ∧ 249 < nc ∧ vp_in (h.1 244 7) 7) ∧ (tf_K 244 = 5 ∧ 244 < nc) ∧ (tf_K 244 = 5 ∧ 244 < nc ∧ tf_S 5 7 = 0) ∧ (tf_K x1 = 0 ∧ x1 < nc) ∧ (tf_K (tf_R x1 5) = 8 ∧ (tf_R x1 5) < nc ∧ vp_in x4 (tf_N (tf_R x1 5))) ∧ (tf_K 244 = 5 ∧ 244 < nc) ∧ (tf_K 250 = 8 ∧ 250 < nc ∧ vp_in ((tf_up (tf_up h.1 249 (h.1 244 7 : Int32).toNatClampNeg x4) 244 7 (((tf_up h.1 249 (h.1 244 7 : Int32).toNatClampNeg x4) 244 7) + 1)) (tf_R x1 5) (x4 : Int32).toNatClampNeg) 7) ∧ (((tf_up (tf_up h.1 249 (h.1 244 7 : Int32).toNatClampNeg x4) 244 7 (((tf_up h.1 249 (h.1 244 7 : Int32).toNatClampNeg x4) 244 7) + 1)) 250 ((tf_up (tf_up h.1 249 (h.1 244 7 : Int32).toNatClampNeg x4) 244 7 (((tf_up h.1 249 (h.1 244 7 : Int32).toNatClampNeg x4) 244 7) + 1)) (tf_R x1 5) (x4 : Int32).toNatClampNeg : Int32).toNatClampNeg) = ((-1) : Int32) → lx_X6_go nc C Q 117 [.ref (244), .ref (x1), .int (x2), .int ((tf_up (tf_up h.1 249 (h.1 244 7 : Int32).toNatClampNeg x4) 244 7 (((tf_up h.1 249 (h.1 244 7 : Int32).toNatClampNeg x4) 244 7) + 1)) (tf_R x1 5) (x4 : Int32).toNatClampNeg), .int (x4)] [] (tf_up (tf_up h.1 249 (h.1 244 7 : Int32).toNatClampNeg x4) 244 7 (((tf_up h.1 249 (h.1 244 7 : Int32).toNatClampNeg x4) 244 7) + 1), h.2)) ∧ (¬ ((tf_up (tf_up h.1 249 (h.1 244 7 : Int32).toNatClampNeg x4) 244 7 (((tf_up h.1 249 (h.1 244 7 : Int32).toNatClampNeg x4) 244 7) + 1)) 250 ((tf_up (tf_up h.1 249 (h.1 244 7 : Int32).toNatClampNeg x4) 244 7 (((tf_up h.1 249 (h.1 244 7 : Int32).toNatClampNeg x4) 244 7) + 1)) (tf_R x1 5) (x4 : Int32).toNatClampNeg : Int32).toNatClampNeg) = ((-1) : Int32) → (tf_K 244 = 5 ∧ 244 < nc) ∧ (tf_K 250 = 8 ∧ 250 < nc ∧ vp_in ((tf_up (tf_up h.1 249 (h.1 244 7 : Int32).toNatClampNeg x4) 244 7 (((tf_up h.1 249 (h.1 244 7 : Int32).toNatClampNeg x4) 244 7) + 1)) (tf_R x1 5) (x4 : Int32).toNatClampNeg) 7) ∧ (tf_K 244 = 5 ∧ 244 < nc ∧ tf_S 5 8 = 0) ∧ 0 = 0 ∧ Q tf_z (tf_up (tf_up (tf_up h.1 249 (h.1 244 7 : Int32).toNatClampNeg x4) 244 7 (((tf_up h.1 249 (h.1 244 7 : Int32).toNatClampNeg x4) 244 7) + 1)) 244 8 ((tf_up (tf_up h.1 249 (h.1 244 7 : Int32).toNatClampNeg x4) 244 7 (((tf_up h.1 249 (h.1 244 7 : Int32).toNatClampNeg x4) 244 7) + 1)) 250 ((tf_up (tf_up h.1 249 (h.1 244 7 : Int32).toNatClampNeg x4) 244 7 (((tf_up h.1 249 (h.1 244 7 : Int32).toNatClampNeg x4) 244 7) + 1)) (tf_R x1 5) (x4 : Int32).toNatClampNeg : Int32).toNatClampNeg), h.2))
  try simp only [(show tf_R x1 5 = x1 + 3 by rw [tn_R0 Kx1_0]; try omega), Nx1_3]
  exact ⟨⟨(by first | rfl | trivial), (show 244 < nc by omega)⟩, ⟨⟨(by first | rfl | trivial), (show 244 < nc by omega)⟩, ⟨⟨(by first | rfl | trivial), (show 249 < nc by omega), q.1⟩, ⟨⟨(by first | rfl | trivial), (show 244 < nc by omega)⟩, ⟨⟨(by first | rfl | trivial), (show 244 < nc by omega), (by first | rfl | trivial)⟩, ⟨⟨Kx1_0, (show x1 < nc by omega)⟩, ⟨⟨Kx1_3, (show x1 + 3 < nc by omega), q.2.1⟩, ⟨⟨(by first | rfl | trivial), (show 244 < nc by omega)⟩, ⟨⟨(by first | rfl | trivial), (show 250 < nc by omega), q.2.2.1⟩, ⟨q.2.2.2.1, fun c1 => ⟨⟨(by first | rfl | trivial), (show 244 < nc by omega)⟩, ⟨⟨(by first | rfl | trivial), (show 250 < nc by omega), (q.2.2.2.2 c1).1⟩, ⟨⟨(by first | rfl | trivial), (show 244 < nc by omega), (by first | rfl | trivial)⟩, ⟨(by first | rfl | trivial), (q.2.2.2.2 c1).2⟩⟩⟩⟩⟩⟩⟩⟩⟩⟩⟩⟩⟩⟩
set_option maxRecDepth 100000 in
theorem go_X6_go_117 {nc : Nat} {C : tf_C} {Q : tf_Q} {h : LH} (hn : 270 ≤ nc) {x1 : Nat} {x2 : Int32} {x3 : Int32} {x4 : Int32} (Kx1_0 : tf_K x1 = 0) (q : lx_X6_go nc C Q 33 [.ref (244), .ref (x1), .int (x2), .int (x3), .int (x4)] [] h) : lx_X6_go nc C Q 117 [.ref (244), .ref (x1), .int (x2), .int (x3), .int (x4)] [] h := by
  obtain ⟨Bx1, ⟨Kx1_1, Kx1_2, Kx1_3, Kx1_4, Kx1_5, Kx1_6, Kx1_7, Kx1_8, Kx1_9, Kx1_10, Kx1_11, Kx1_12, Kx1_13, Kx1_14⟩, ⟨Nx1_1, Nx1_2, Nx1_3, Nx1_4, Nx1_5, Nx1_6, Nx1_7, Nx1_8, Nx1_9, Nx1_10, Nx1_12, Nx1_13, Nx1_14⟩⟩ := tn_net Kx1_0
  refine tf_LW_go ?_
  exact q
set_option maxRecDepth 100000 in
theorem go_X6_go_120 {nc : Nat} {C : tf_C} {Q : tf_Q} {h : LH} (hn : 270 ≤ nc) {x1 : Nat} {x2 : Int32} {x3 : Int32} {x4 : Value} (Kx1_0 : tf_K x1 = 0) (q : Q tf_z h) : lx_X6_go nc C Q 120 [.ref (244), .ref (x1), .int (x2), .int (x3), x4] [] h := by
  obtain ⟨Bx1, ⟨Kx1_1, Kx1_2, Kx1_3, Kx1_4, Kx1_5, Kx1_6, Kx1_7, Kx1_8, Kx1_9, Kx1_10, Kx1_11, Kx1_12, Kx1_13, Kx1_14⟩, ⟨Nx1_1, Nx1_2, Nx1_3, Nx1_4, Nx1_5, Nx1_6, Nx1_7, Nx1_8, Nx1_9, Nx1_10, Nx1_12, Nx1_13, Nx1_14⟩⟩ := tn_net Kx1_0
  refine tf_LW_go ?_
  exact ⟨(by first | rfl | trivial), q⟩
abbrev lx_X6_keep (nc : Nat) (C : tf_C) (Q : tf_Q) : tf_X := tf_LW nc C (tf_F 5) (tf_M 5) (tf_I 5) (tf_Eh 180) 0 tb_X6_keep Q
set_option maxRecDepth 100000 in
theorem go_X6_keep_0 {nc : Nat} {C : tf_C} {Q : tf_Q} {h : LH} (hn : 270 ≤ nc) (q : lx_X6_keep nc C Q 8 [.ref (244), .int (1000000), .int (h.1 244 8)] [] h) : lx_X6_keep nc C Q 0 [.ref (244), tf_z, tf_z] [] h := by
  refine tf_LW_go ?_
  exact ⟨⟨(by first | rfl | trivial), (show 244 < nc by omega)⟩, q⟩
theorem en_X6_keep {nc d : Nat} {Q : tf_Q} {h : LH} (hn : 270 ≤ nc) (q : lx_X6_keep nc (tf_Cd nc d) Q 0 [.ref (244), tf_z, tf_z] [] h) : tf_Cd nc (d + 1) 180 [.ref (244)] h Q := by
  exact ⟨⟨Nat.le_of_ble_eq_true rfl, Or.inr ⟨rfl, (show 244 < nc by omega)⟩⟩, q⟩
set_option maxRecDepth 100000 in
theorem go_X6_keep_8 {nc : Nat} {C : tf_C} {Q : tf_Q} {h : LH} (hn : 270 ≤ nc) {x1 : Int32} {x2 : Int32} (q : ((h.1 244 7) ≤ x2 → lx_X6_keep nc C Q 38 [.ref (244), .int (x1), .int (x2)] [] h) ∧ (¬ (h.1 244 7) ≤ x2 → (vp_in x2 7) ∧ (vp_in (h.1 249 (x2 : Int32).toNatClampNeg) 14) ∧ C 1002 [.int (x1), .int (h.1 248 (h.1 249 (x2 : Int32).toNatClampNeg : Int32).toNatClampNeg)] h (fun r g => lx_X6_keep nc C Q 31 [.ref (244), .int (x1), .int (x2)] (r :: []) g))) : lx_X6_keep nc C Q 8 [.ref (244), .int (x1), .int (x2)] [] h := by
  refine tf_LW_go ?_
  exact ⟨⟨(by first | rfl | trivial), (show 244 < nc by omega)⟩, ⟨q.1, fun c1 => ⟨⟨(by first | rfl | trivial), (show 244 < nc by omega)⟩, ⟨⟨(by first | rfl | trivial), (show 244 < nc by omega)⟩, ⟨⟨(by first | rfl | trivial), (show 249 < nc by omega), (q.2 c1).1⟩, ⟨⟨(by first | rfl | trivial), (show 248 < nc by omega), (q.2 c1).2.1⟩, ⟨Nat.le_of_ble_eq_true rfl, Nat.le_of_ble_eq_true rfl, (q.2 c1).2.2⟩⟩⟩⟩⟩⟩⟩
set_option maxRecDepth 100000 in
theorem go_X6_keep_31 {nc : Nat} {C : tf_C} {Q : tf_Q} {h : LH} (hn : 270 ≤ nc) {x1 : Int32} {x2 : Int32} {y0 : Int32} (q : lx_X6_keep nc C Q 8 [.ref (244), .int (y0), .int (x2 + 1)] [] h) : lx_X6_keep nc C Q 31 [.ref (244), .int (x1), .int (x2)] [.int (y0)] h := by
  refine tf_LW_go ?_
  exact q
set_option maxRecDepth 100000 in
theorem go_X6_keep_38 {nc : Nat} {C : tf_C} {Q : tf_Q} {h : LH} (hn : 270 ≤ nc) {x1 : Int32} {x2 : Int32} (q : lx_X6_keep nc C Q 43 [.ref (244), .int (x1), .int (h.1 244 8)] [] h) : lx_X6_keep nc C Q 38 [.ref (244), .int (x1), .int (x2)] [] h := by
  refine tf_LW_go ?_
  exact ⟨⟨(by first | rfl | trivial), (show 244 < nc by omega)⟩, q⟩
set_option maxRecDepth 100000 in
theorem go_X6_keep_43 {nc : Nat} {C : tf_C} {Q : tf_Q} {h : LH} (hn : 270 ≤ nc) {x1 : Int32} {x2 : Int32} (q : ((h.1 244 7) ≤ x2 → lx_X6_keep nc C Q 97 [.ref (244), .int (x1), .int (x2)] [] h) ∧ (¬ (h.1 244 7) ≤ x2 → (vp_in x2 7) ∧ (vp_in (h.1 249 (x2 : Int32).toNatClampNeg) 14) ∧ (vp_in (h.1 249 (x2 : Int32).toNatClampNeg) 14) ∧ (vp_in x2 7) ∧ (vp_in (((((tf_up h.1 248 (h.1 249 (x2 : Int32).toNatClampNeg : Int32).toNatClampNeg ((h.1 248 (h.1 249 (x2 : Int32).toNatClampNeg : Int32).toNatClampNeg) - x1)) 244 0) * 7) + x2) - ((tf_up h.1 248 (h.1 249 (x2 : Int32).toNatClampNeg : Int32).toNatClampNeg ((h.1 248 (h.1 249 (x2 : Int32).toNatClampNeg : Int32).toNatClampNeg) - x1)) 244 8)) 98) ∧ lx_X6_keep nc C Q 43 [.ref (244), .int (x1), .int (x2 + 1)] [] (tf_up (tf_up h.1 248 (h.1 249 (x2 : Int32).toNatClampNeg : Int32).toNatClampNeg ((h.1 248 (h.1 249 (x2 : Int32).toNatClampNeg : Int32).toNatClampNeg) - x1)) 247 (((((tf_up h.1 248 (h.1 249 (x2 : Int32).toNatClampNeg : Int32).toNatClampNeg ((h.1 248 (h.1 249 (x2 : Int32).toNatClampNeg : Int32).toNatClampNeg) - x1)) 244 0) * 7) + x2) - ((tf_up h.1 248 (h.1 249 (x2 : Int32).toNatClampNeg : Int32).toNatClampNeg ((h.1 248 (h.1 249 (x2 : Int32).toNatClampNeg : Int32).toNatClampNeg) - x1)) 244 8) : Int32).toNatClampNeg ((tf_up h.1 248 (h.1 249 (x2 : Int32).toNatClampNeg : Int32).toNatClampNeg ((h.1 248 (h.1 249 (x2 : Int32).toNatClampNeg : Int32).toNatClampNeg) - x1)) 249 (x2 : Int32).toNatClampNeg), h.2))) : lx_X6_keep nc C Q 43 [.ref (244), .int (x1), .int (x2)] [] h := by
  refine tf_LW_go ?_
  exact ⟨⟨(by first | rfl | trivial), (show 244 < nc by omega)⟩, ⟨q.1, fun c1 => ⟨⟨(by first | rfl | trivial), (show 244 < nc by omega)⟩, ⟨⟨(by first | rfl | trivial), (show 244 < nc by omega)⟩, ⟨⟨(by first | rfl | trivial), (show 249 < nc by omega), (q.2 c1).1⟩, ⟨⟨(by first | rfl | trivial), (show 248 < nc by omega), (q.2 c1).2.1⟩, ⟨⟨(by first | rfl | trivial), (show 248 < nc by omega), (q.2 c1).2.2.1⟩, ⟨⟨(by first | rfl | trivial), (show 244 < nc by omega)⟩, ⟨⟨(by first | rfl | trivial), (show 244 < nc by omega)⟩, ⟨⟨(by first | rfl | trivial), (show 244 < nc by omega)⟩, ⟨⟨(by first | rfl | trivial), (show 244 < nc by omega)⟩, ⟨⟨(by first | rfl | trivial), (show 249 < nc by omega), (q.2 c1).2.2.2.1⟩, ⟨⟨(by first | rfl | trivial), (show 247 < nc by omega), (q.2 c1).2.2.2.2.1⟩, (q.2 c1).2.2.2.2.2⟩⟩⟩⟩⟩⟩⟩⟩⟩⟩⟩⟩⟩
set_option maxRecDepth 100000 in
theorem go_X6_keep_97 {nc : Nat} {C : tf_C} {Q : tf_Q} {h : LH} (hn : 270 ≤ nc) {x1 : Int32} {x2 : Int32} (q : (vp_in (h.1 244 0) 14) ∧ (vp_in ((tf_up h.1 245 (h.1 244 0 : Int32).toNatClampNeg x1) 244 0) 14) ∧ Q tf_z (tf_up (tf_up (tf_up h.1 245 (h.1 244 0 : Int32).toNatClampNeg x1) 246 ((tf_up h.1 245 (h.1 244 0 : Int32).toNatClampNeg x1) 244 0 : Int32).toNatClampNeg (((tf_up h.1 245 (h.1 244 0 : Int32).toNatClampNeg x1) 244 7) - ((tf_up h.1 245 (h.1 244 0 : Int32).toNatClampNeg x1) 244 8))) 244 0 (((tf_up (tf_up h.1 245 (h.1 244 0 : Int32).toNatClampNeg x1) 246 ((tf_up h.1 245 (h.1 244 0 : Int32).toNatClampNeg x1) 244 0 : Int32).toNatClampNeg (((tf_up h.1 245 (h.1 244 0 : Int32).toNatClampNeg x1) 244 7) - ((tf_up h.1 245 (h.1 244 0 : Int32).toNatClampNeg x1) 244 8))) 244 0) + 1), h.2)) : lx_X6_keep nc C Q 97 [.ref (244), .int (x1), .int (x2)] [] h := by
  refine tf_LW_go ?_
  exact ⟨⟨(by first | rfl | trivial), (show 244 < nc by omega)⟩, ⟨⟨(by first | rfl | trivial), (show 244 < nc by omega)⟩, ⟨⟨(by first | rfl | trivial), (show 245 < nc by omega), q.1⟩, ⟨⟨(by first | rfl | trivial), (show 244 < nc by omega)⟩, ⟨⟨(by first | rfl | trivial), (show 244 < nc by omega)⟩, ⟨⟨(by first | rfl | trivial), (show 244 < nc by omega)⟩, ⟨⟨(by first | rfl | trivial), (show 244 < nc by omega)⟩, ⟨⟨(by first | rfl | trivial), (show 246 < nc by omega), q.2.1⟩, ⟨⟨(by first | rfl | trivial), (show 244 < nc by omega)⟩, ⟨⟨(by first | rfl | trivial), (show 244 < nc by omega), (by first | rfl | trivial)⟩, ⟨(by first | rfl | trivial), q.2.2⟩⟩⟩⟩⟩⟩⟩⟩⟩⟩⟩
abbrev lx_X8_spell (nc : Nat) (C : tf_C) (Q : tf_Q) : tf_X := tf_LW nc C (tf_F 6) (tf_M 6) (tf_I 6) (tf_Eh 181) 1 tb_X8_spell Q
set_option maxRecDepth 100000 in
theorem go_X8_spell_0 {nc : Nat} {C : tf_C} {Q : tf_Q} {h : LH} (hn : 270 ≤ nc) {x1 : Int64} (q : lx_X8_spell nc C Q 2 [.ref (240), .long (x1), tf_z, .int (0), tf_z] [] h) : lx_X8_spell nc C Q 0 [.ref (240), .long (x1), tf_z, tf_z, tf_z] [] h := by
  refine tf_LW_go ?_
  exact q
theorem en_X8_spell {nc d : Nat} {Q : tf_Q} {h : LH} (hn : 270 ≤ nc) {x1 : Int64} (q : lx_X8_spell nc (tf_Cd nc d) Q 0 [.ref (240), .long (x1), tf_z, tf_z, tf_z] [] h) : tf_Cd nc (d + 1) 181 [.ref (240), .long (x1)] h Q := by
  exact ⟨⟨Nat.le_of_ble_eq_true rfl, Or.inr ⟨rfl, (show 240 < nc by omega)⟩⟩, q⟩
set_option maxRecDepth 100000 in
theorem go_X8_spell_2 {nc : Nat} {C : tf_C} {Q : tf_Q} {h : LH} (hn : 270 ≤ nc) {x1 : Int64} {x3 : Int32} (q : ((8 : Int32) ≤ x3 → lx_X8_spell nc C Q 22 [.ref (240), .long (x1), tf_z, .int (x3), tf_z] [] h) ∧ (¬ (8 : Int32) ≤ x3 → C 219 [.long (x1), .int (x3)] h (fun r g => lx_X8_spell nc C Q 13 [.ref (240), .long (x1), tf_z, .int (x3), tf_z] (r :: []) g))) : lx_X8_spell nc C Q 2 [.ref (240), .long (x1), tf_z, .int (x3), tf_z] [] h := by
  refine tf_LW_go ?_
  exact ⟨q.1, fun c1 => ⟨Nat.le_of_ble_eq_true rfl, Nat.le_of_ble_eq_true rfl, (q.2 c1)⟩⟩
set_option maxRecDepth 100000 in
theorem go_X8_spell_13 {nc : Nat} {C : tf_C} {Q : tf_Q} {h : LH} (hn : 270 ≤ nc) {x1 : Int64} {x3 : Int32} {y0 : Int32} (q : (y0 = (0 : Int32) → lx_X8_spell nc C Q 22 [.ref (240), .long (x1), tf_z, .int (x3), tf_z] [] h) ∧ (¬ y0 = (0 : Int32) → lx_X8_spell nc C Q 2 [.ref (240), .long (x1), tf_z, .int (x3 + 1), tf_z] [] h)) : lx_X8_spell nc C Q 13 [.ref (240), .long (x1), tf_z, .int (x3), tf_z] [.int (y0)] h := by
  refine tf_LW_go ?_
  exact ⟨q.1, fun c1 => (q.2 c1)⟩
set_option maxRecDepth 100000 in
theorem go_X8_spell_22 {nc : Nat} {C : tf_C} {Q : tf_Q} {h : LH} (hn : 270 ≤ nc) {x1 : Int64} {x3 : Int32} (q : (((h.1 251 1) + x3) ≤ (400 : Int32) → lx_X8_spell nc C Q 39 [.ref (240), .long (x1), tf_z, .int (x3), tf_z] [] h) ∧ (¬ ((h.1 251 1) + x3) ≤ (400 : Int32) → Q (.int ((-1))) h)) : lx_X8_spell nc C Q 22 [.ref (240), .long (x1), tf_z, .int (x3), tf_z] [] h := by
  refine tf_LW_go ?_
  exact ⟨⟨(by first | rfl | trivial), (show 240 < nc by omega)⟩, ⟨⟨(by first | rfl | trivial), (show 251 < nc by omega)⟩, ⟨q.1, fun c1 => ⟨(by first | trivial | rfl), (q.2 c1)⟩⟩⟩⟩
set_option maxRecDepth 100000 in
theorem go_X8_spell_39 {nc : Nat} {C : tf_C} {Q : tf_Q} {h : LH} (hn : 270 ≤ nc) {x1 : Int64} {x3 : Int32} (q : lx_X8_spell nc C Q 42 [.ref (240), .long (x1), tf_z, .int (x3), .int (0)] [] h) : lx_X8_spell nc C Q 39 [.ref (240), .long (x1), tf_z, .int (x3), tf_z] [] h := by
  refine tf_LW_go ?_
  exact q
set_option maxRecDepth 100000 in
theorem go_X8_spell_42 {nc : Nat} {C : tf_C} {Q : tf_Q} {h : LH} (hn : 270 ≤ nc) {x1 : Int64} {x3 : Int32} {x4 : Int32} (q : (x3 ≤ x4 → lx_X8_spell nc C Q 67 [.ref (240), .long (x1), tf_z, .int (x3), .int (x4)] [] h) ∧ (¬ x3 ≤ x4 → C 219 [.long (x1), .int (x4)] h (fun r g => lx_X8_spell nc C Q 58 [.ref (240), .long (x1), tf_z, .int (x3), .int (x4)] (r :: [.ref (251)]) g))) : lx_X8_spell nc C Q 42 [.ref (240), .long (x1), tf_z, .int (x3), .int (x4)] [] h := by
  refine tf_LW_go ?_
  exact ⟨q.1, fun c1 => ⟨⟨(by first | rfl | trivial), (show 240 < nc by omega)⟩, ⟨Nat.le_of_ble_eq_true rfl, Nat.le_of_ble_eq_true rfl, (q.2 c1)⟩⟩⟩
set_option maxRecDepth 100000 in
theorem go_X8_spell_58 {nc : Nat} {C : tf_C} {Q : tf_Q} {h : LH} (hn : 270 ≤ nc) {x1 : Int64} {x3 : Int32} {x4 : Int32} {y0 : Nat} {y1 : Int32} (Ky0_0 : tf_K y0 = 1) (q : C 155 [.ref (y0), .int (y1)] h (fun r g => lx_X8_spell nc C Q 61 [.ref (240), .long (x1), tf_z, .int (x3), .int (x4)] [] g)) : lx_X8_spell nc C Q 58 [.ref (240), .long (x1), tf_z, .int (x3), .int (x4)] [.int (y1), .ref (y0)] h := by
  obtain ⟨By0, Ky0_1, Ny0_1⟩ := tn_page Ky0_0
  refine tf_LW_go ?_
  exact ⟨Nat.le_of_ble_eq_true rfl, Nat.le_of_ble_eq_true rfl, q⟩
set_option maxRecDepth 100000 in
theorem go_X8_spell_61 {nc : Nat} {C : tf_C} {Q : tf_Q} {h : LH} (hn : 270 ≤ nc) {x1 : Int64} {x3 : Int32} {x4 : Int32} (q : lx_X8_spell nc C Q 42 [.ref (240), .long (x1), tf_z, .int (x3), .int (x4 + 1)] [] h) : lx_X8_spell nc C Q 61 [.ref (240), .long (x1), tf_z, .int (x3), .int (x4)] [] h := by
  refine tf_LW_go ?_
  exact q
set_option maxRecDepth 100000 in
theorem go_X8_spell_67 {nc : Nat} {C : tf_C} {Q : tf_Q} {h : LH} (hn : 270 ≤ nc) {x1 : Int64} {x3 : Int32} {x4 : Int32} (q : Q (.int (h.1 251 1)) h) : lx_X8_spell nc C Q 67 [.ref (240), .long (x1), tf_z, .int (x3), .int (x4)] [] h := by
  refine tf_LW_go ?_
  exact ⟨⟨(by first | rfl | trivial), (show 240 < nc by omega)⟩, ⟨⟨(by first | rfl | trivial), (show 251 < nc by omega)⟩, ⟨(by first | trivial | rfl), q⟩⟩⟩
abbrev lx_X8_lay (nc : Nat) (C : tf_C) (Q : tf_Q) : tf_X := tf_LW nc C (tf_F 6) (tf_M 6) (tf_I 6) (tf_Eh 182) 1 tb_X8_lay Q
set_option maxRecDepth 100000 in
theorem go_X8_lay_0 {nc : Nat} {C : tf_C} {Q : tf_Q} {h : LH} (hn : 270 ≤ nc) (q : C 222 [.ref (259), .ref (251), .int (0)] h (fun r g => lx_X8_lay nc C Q 12 [.ref (240)] [] g)) : lx_X8_lay nc C Q 0 [.ref (240)] [] h := by
  refine tf_LW_go ?_
  exact ⟨⟨(by first | rfl | trivial), (show 240 < nc by omega)⟩, ⟨⟨(by first | rfl | trivial), (show 240 < nc by omega)⟩, ⟨Nat.le_of_ble_eq_true rfl, Nat.le_of_ble_eq_true rfl, q⟩⟩⟩
theorem en_X8_lay {nc d : Nat} {Q : tf_Q} {h : LH} (hn : 270 ≤ nc) (q : lx_X8_lay nc (tf_Cd nc d) Q 0 [.ref (240)] [] h) : tf_Cd nc (d + 1) 182 [.ref (240)] h Q := by
  exact ⟨⟨Nat.le_of_ble_eq_true rfl, Or.inr ⟨rfl, (show 240 < nc by omega)⟩⟩, q⟩
set_option maxRecDepth 100000 in
theorem go_X8_lay_12 {nc : Nat} {C : tf_C} {Q : tf_Q} {h : LH} (hn : 270 ≤ nc) (q : ((h.1 259 1) = (0 : Int32) → C 232 [.ref (259), .int (h.1 251 1)] h (fun r g => lx_X8_lay nc C Q 36 [.ref (240)] [] g)) ∧ (¬ (h.1 259 1) = (0 : Int32) → lx_X8_lay nc C Q 36 [.ref (240)] [] h)) : lx_X8_lay nc C Q 12 [.ref (240)] [] h := by
  refine tf_LW_go ?_
  exact ⟨⟨(by first | rfl | trivial), (show 240 < nc by omega)⟩, ⟨⟨(by first | rfl | trivial), (show 259 < nc by omega)⟩, ⟨fun c1 => ⟨⟨(by first | rfl | trivial), (show 240 < nc by omega)⟩, ⟨⟨(by first | rfl | trivial), (show 240 < nc by omega)⟩, ⟨⟨(by first | rfl | trivial), (show 251 < nc by omega)⟩, ⟨Nat.le_of_ble_eq_true rfl, Nat.le_of_ble_eq_true rfl, (q.1 c1)⟩⟩⟩⟩, q.2⟩⟩⟩
set_option maxRecDepth 100000 in
theorem go_X8_lay_36 {nc : Nat} {C : tf_C} {Q : tf_Q} {h : LH} (hn : 270 ≤ nc) (q : C 214 [.ref (240)] h (fun r g => lx_X8_lay nc C Q 40 [.ref (240)] [] g)) : lx_X8_lay nc C Q 36 [.ref (240)] [] h := by
  refine tf_LW_go ?_
  exact ⟨Nat.le_of_ble_eq_true rfl, Nat.le_of_ble_eq_true rfl, q⟩
set_option maxRecDepth 100000 in
theorem go_X8_lay_40 {nc : Nat} {C : tf_C} {Q : tf_Q} {h : LH} (hn : 270 ≤ nc) (q : ((h.1 259 1) = (0 : Int32) → lx_X8_lay nc C Q 52 [.ref (240)] [] h) ∧ (¬ (h.1 259 1) = (0 : Int32) → Q (.int ((-1))) h)) : lx_X8_lay nc C Q 40 [.ref (240)] [] h := by
  refine tf_LW_go ?_
  exact ⟨⟨(by first | rfl | trivial), (show 240 < nc by omega)⟩, ⟨⟨(by first | rfl | trivial), (show 259 < nc by omega)⟩, ⟨q.1, fun c1 => ⟨(by first | trivial | rfl), (q.2 c1)⟩⟩⟩⟩
set_option maxRecDepth 100000 in
theorem go_X8_lay_52 {nc : Nat} {C : tf_C} {Q : tf_Q} {h : LH} (hn : 270 ≤ nc) (q : C 239 [.ref (259), .ref (0)] h (fun r g => lx_X8_lay nc C Q 63 [.ref (240)] [] g)) : lx_X8_lay nc C Q 52 [.ref (240)] [] h := by
  refine tf_LW_go ?_
  exact ⟨⟨(by first | rfl | trivial), (show 240 < nc by omega)⟩, ⟨⟨(by first | rfl | trivial), (show 240 < nc by omega)⟩, ⟨Nat.le_of_ble_eq_true rfl, Nat.le_of_ble_eq_true rfl, q⟩⟩⟩
set_option maxRecDepth 100000 in
theorem go_X8_lay_63 {nc : Nat} {C : tf_C} {Q : tf_Q} {h : LH} (hn : 270 ≤ nc) (q : C 128 [.ref (0), .int (0)] h (fun r g => lx_X8_lay nc C Q 71 [.ref (240)] [] g)) : lx_X8_lay nc C Q 63 [.ref (240)] [] h := by
  refine tf_LW_go ?_
  exact ⟨⟨(by first | rfl | trivial), (show 240 < nc by omega)⟩, ⟨Nat.le_of_ble_eq_true rfl, Nat.le_of_ble_eq_true rfl, q⟩⟩
set_option maxRecDepth 100000 in
theorem go_X8_lay_71 {nc : Nat} {C : tf_C} {Q : tf_Q} {h : LH} (hn : 270 ≤ nc) (q : C 170 [.ref (11)] h (fun r g => lx_X8_lay nc C Q 81 [.ref (240)] [] g)) : lx_X8_lay nc C Q 71 [.ref (240)] [] h := by
  refine tf_LW_go ?_
  exact ⟨⟨(by first | rfl | trivial), (show 240 < nc by omega)⟩, ⟨⟨(by first | rfl | trivial), (show 0 < nc by omega)⟩, ⟨Nat.le_of_ble_eq_true rfl, Nat.le_of_ble_eq_true rfl, q⟩⟩⟩
set_option maxRecDepth 100000 in
theorem go_X8_lay_81 {nc : Nat} {C : tf_C} {Q : tf_Q} {h : LH} (hn : 270 ≤ nc) (q : Q (.int ((tf_up h.1 240 9 0) 0 1)) (tf_up h.1 240 9 0, h.2)) : lx_X8_lay nc C Q 81 [.ref (240)] [] h := by
  refine tf_LW_go ?_
  exact ⟨⟨(by first | rfl | trivial), (show 240 < nc by omega), (by first | rfl | trivial)⟩, ⟨⟨(by first | rfl | trivial), (show 240 < nc by omega)⟩, ⟨⟨(by first | rfl | trivial), (show 0 < nc by omega)⟩, ⟨(by first | trivial | rfl), q⟩⟩⟩⟩
abbrev lx_X8_fault (nc : Nat) (C : tf_C) (Q : tf_Q) : tf_X := tf_LW nc C (tf_F 6) (tf_M 6) (tf_I 6) (tf_Eh 183) 1 tb_X8_fault Q
set_option maxRecDepth 100000 in
theorem go_X8_fault_0 {nc : Nat} {C : tf_C} {Q : tf_Q} {h : LH} (hn : 270 ≤ nc) {x1 : Int32} (q : (x1 = (0 : Int32) → lx_X8_fault nc C Q 14 [.ref (240), .int (x1)] [] h) ∧ (¬ x1 = (0 : Int32) → lx_X8_fault nc C Q 21 [.ref (240), .int (x1)] [.int (h.1 251 3)] h)) : lx_X8_fault nc C Q 0 [.ref (240), .int (x1)] [] h := by
  refine tf_LW_go ?_
  exact ⟨q.1, fun c1 => ⟨⟨(by first | rfl | trivial), (show 240 < nc by omega)⟩, ⟨⟨(by first | rfl | trivial), (show 251 < nc by omega)⟩, (q.2 c1)⟩⟩⟩
theorem en_X8_fault {nc d : Nat} {Q : tf_Q} {h : LH} (hn : 270 ≤ nc) {x1 : Int32} (q : lx_X8_fault nc (tf_Cd nc d) Q 0 [.ref (240), .int (x1)] [] h) : tf_Cd nc (d + 1) 183 [.ref (240), .int (x1)] h Q := by
  exact ⟨⟨Nat.le_of_ble_eq_true rfl, Or.inr ⟨rfl, (show 240 < nc by omega)⟩⟩, q⟩
set_option maxRecDepth 100000 in
theorem go_X8_fault_14 {nc : Nat} {C : tf_C} {Q : tf_Q} {h : LH} (hn : 270 ≤ nc) {x1 : Int32} (q : lx_X8_fault nc C Q 21 [.ref (240), .int (x1)] [.int (h.1 251 2)] h) : lx_X8_fault nc C Q 14 [.ref (240), .int (x1)] [] h := by
  refine tf_LW_go ?_
  exact ⟨⟨(by first | rfl | trivial), (show 240 < nc by omega)⟩, ⟨⟨(by first | rfl | trivial), (show 251 < nc by omega)⟩, q⟩⟩
set_option maxRecDepth 100000 in
theorem go_X8_fault_21 {nc : Nat} {C : tf_C} {Q : tf_Q} {h : LH} (hn : 270 ≤ nc) {x1 : Int32} {y0 : Int32} (q : Q (.int (y0)) h) : lx_X8_fault nc C Q 21 [.ref (240), .int (x1)] [.int (y0)] h := by
  refine tf_LW_go ?_
  exact ⟨(by first | trivial | rfl), q⟩
abbrev lx_X8_pivot (nc : Nat) (C : tf_C) (Q : tf_Q) : tf_X := tf_LW nc C (tf_F 6) (tf_M 6) (tf_I 6) (tf_Eh 184) 1 tb_X8_pivot Q
set_option maxRecDepth 100000 in
theorem go_X8_pivot_0 {nc : Nat} {C : tf_C} {Q : tf_Q} {h : LH} (hn : 270 ≤ nc) (q : C 215 [.ref (240)] h (fun r g => lx_X8_pivot nc C Q 4 [.ref (240), tf_z] [] g)) : lx_X8_pivot nc C Q 0 [.ref (240), tf_z] [] h := by
  refine tf_LW_go ?_
  exact ⟨Nat.le_of_ble_eq_true rfl, Nat.le_of_ble_eq_true rfl, q⟩
theorem en_X8_pivot {nc d : Nat} {Q : tf_Q} {h : LH} (hn : 270 ≤ nc) (q : lx_X8_pivot nc (tf_Cd nc d) Q 0 [.ref (240), tf_z] [] h) : tf_Cd nc (d + 1) 184 [.ref (240)] h Q := by
  exact ⟨⟨Nat.le_of_ble_eq_true rfl, Or.inr ⟨rfl, (show 240 < nc by omega)⟩⟩, q⟩
set_option maxRecDepth 100000 in
theorem go_X8_pivot_4 {nc : Nat} {C : tf_C} {Q : tf_Q} {h : LH} (hn : 270 ≤ nc) (q : C 159 [.ref (241), .ref (0), .int (h.1 0 2)] h (fun r g => lx_X8_pivot nc C Q 22 [.ref (240), tf_z] (r :: []) g)) : lx_X8_pivot nc C Q 4 [.ref (240), tf_z] [] h := by
  refine tf_LW_go ?_
  exact ⟨⟨(by first | rfl | trivial), (show 240 < nc by omega)⟩, ⟨⟨(by first | rfl | trivial), (show 240 < nc by omega)⟩, ⟨⟨(by first | rfl | trivial), (show 240 < nc by omega)⟩, ⟨⟨(by first | rfl | trivial), (show 0 < nc by omega)⟩, ⟨Nat.le_of_ble_eq_true rfl, Nat.le_of_ble_eq_true rfl, q⟩⟩⟩⟩⟩
set_option maxRecDepth 100000 in
theorem go_X8_pivot_22 {nc : Nat} {C : tf_C} {Q : tf_Q} {h : LH} (hn : 270 ≤ nc) {y0 : Int32} (q : (y0 = ((-1) : Int32) → lx_X8_pivot nc C Q 33 [.ref (240), .int (y0)] [.ref (240)] h) ∧ (¬ y0 = ((-1) : Int32) → lx_X8_pivot nc C Q 34 [.ref (240), .int (y0)] [.int (1), .ref (240)] h)) : lx_X8_pivot nc C Q 22 [.ref (240), tf_z] [.int (y0)] h := by
  refine tf_LW_go ?_
  exact ⟨q.1, fun c1 => (q.2 c1)⟩
set_option maxRecDepth 100000 in
theorem go_X8_pivot_33 {nc : Nat} {C : tf_C} {Q : tf_Q} {h : LH} (hn : 270 ≤ nc) {x1 : Int32} (q : lx_X8_pivot nc C Q 34 [.ref (240), .int (x1)] [.int (0), .ref (240)] h) : lx_X8_pivot nc C Q 33 [.ref (240), .int (x1)] [.ref (240)] h := by
  refine tf_LW_go ?_
  exact q
set_option maxRecDepth 100000 in
theorem go_X8_pivot_34 {nc : Nat} {C : tf_C} {Q : tf_Q} {h : LH} (hn : 270 ≤ nc) {x1 : Int32} {y1 : Int32} (q : C 216 [.ref (240), .int (y1)] h (fun r g => lx_X8_pivot nc C Q 37 [.ref (240), .int (x1)] (r :: []) g)) : lx_X8_pivot nc C Q 34 [.ref (240), .int (x1)] [.int (y1), .ref (240)] h := by
  refine tf_LW_go ?_
  exact ⟨Nat.le_of_ble_eq_true rfl, Nat.le_of_ble_eq_true rfl, q⟩
set_option maxRecDepth 100000 in
theorem go_X8_pivot_37 {nc : Nat} {C : tf_C} {Q : tf_Q} {h : LH} (hn : 270 ≤ nc) {x1 : Int32} {y0 : Int32} (q : Q (.int (x1)) h) : lx_X8_pivot nc C Q 37 [.ref (240), .int (x1)] [.int (y0)] h := by
  refine tf_LW_go ?_
  exact ⟨(by first | trivial | rfl), q⟩
abbrev lx_X8_pivots (nc : Nat) (C : tf_C) (Q : tf_Q) : tf_X := tf_LW nc C (tf_F 6) (tf_M 6) (tf_I 6) (tf_Eh 185) 1 tb_X8_pivots Q
set_option maxRecDepth 100000 in
theorem go_X8_pivots_0 {nc : Nat} {C : tf_C} {Q : tf_Q} {h : LH} (hn : 270 ≤ nc) {x1 : Int32} (q : (x1 < (1 : Int32) → lx_X8_pivots nc C Q 11 [.ref (240), .int (x1), tf_z] [] h) ∧ (¬ x1 < (1 : Int32) → (x1 ≤ (60 : Int32) → lx_X8_pivots nc C Q 13 [.ref (240), .int (x1), tf_z] [] h) ∧ (¬ x1 ≤ (60 : Int32) → lx_X8_pivots nc C Q 11 [.ref (240), .int (x1), tf_z] [] h))) : lx_X8_pivots nc C Q 0 [.ref (240), .int (x1), tf_z] [] h := by
  refine tf_LW_go ?_
  exact ⟨q.1, fun c2 => ⟨(q.2 c2).1, fun c1 => ((q.2 c2).2 c1)⟩⟩
theorem en_X8_pivots {nc d : Nat} {Q : tf_Q} {h : LH} (hn : 270 ≤ nc) {x1 : Int32} (q : lx_X8_pivots nc (tf_Cd nc d) Q 0 [.ref (240), .int (x1), tf_z] [] h) : tf_Cd nc (d + 1) 185 [.ref (240), .int (x1)] h Q := by
  exact ⟨⟨Nat.le_of_ble_eq_true rfl, Or.inr ⟨rfl, (show 240 < nc by omega)⟩⟩, q⟩
set_option maxRecDepth 100000 in
theorem go_X8_pivots_11 {nc : Nat} {C : tf_C} {Q : tf_Q} {h : LH} (hn : 270 ≤ nc) {x1 : Int32} (q : Q (.int ((-1))) h) : lx_X8_pivots nc C Q 11 [.ref (240), .int (x1), tf_z] [] h := by
  refine tf_LW_go ?_
  exact ⟨(by first | trivial | rfl), q⟩
set_option maxRecDepth 100000 in
theorem go_X8_pivots_13 {nc : Nat} {C : tf_C} {Q : tf_Q} {h : LH} (hn : 270 ≤ nc) {x1 : Int32} (q : C 215 [.ref (240)] h (fun r g => lx_X8_pivots nc C Q 17 [.ref (240), .int (x1), tf_z] [] g)) : lx_X8_pivots nc C Q 13 [.ref (240), .int (x1), tf_z] [] h := by
  refine tf_LW_go ?_
  exact ⟨Nat.le_of_ble_eq_true rfl, Nat.le_of_ble_eq_true rfl, q⟩
set_option maxRecDepth 100000 in
theorem go_X8_pivots_17 {nc : Nat} {C : tf_C} {Q : tf_Q} {h : LH} (hn : 270 ≤ nc) {x1 : Int32} (q : C 160 [.ref (241), .ref (0), .int (h.1 0 2), .int (x1)] h (fun r g => lx_X8_pivots nc C Q 36 [.ref (240), .int (x1), tf_z] (r :: []) g)) : lx_X8_pivots nc C Q 17 [.ref (240), .int (x1), tf_z] [] h := by
  refine tf_LW_go ?_
  exact ⟨⟨(by first | rfl | trivial), (show 240 < nc by omega)⟩, ⟨⟨(by first | rfl | trivial), (show 240 < nc by omega)⟩, ⟨⟨(by first | rfl | trivial), (show 240 < nc by omega)⟩, ⟨⟨(by first | rfl | trivial), (show 0 < nc by omega)⟩, ⟨Nat.le_of_ble_eq_true rfl, Nat.le_of_ble_eq_true rfl, q⟩⟩⟩⟩⟩
set_option maxRecDepth 100000 in
theorem go_X8_pivots_36 {nc : Nat} {C : tf_C} {Q : tf_Q} {h : LH} (hn : 270 ≤ nc) {x1 : Int32} {y0 : Int32} (q : (y0 ≤ (0 : Int32) → lx_X8_pivots nc C Q 46 [.ref (240), .int (x1), .int (y0)] [.ref (240)] h) ∧ (¬ y0 ≤ (0 : Int32) → lx_X8_pivots nc C Q 47 [.ref (240), .int (x1), .int (y0)] [.int (1), .ref (240)] h)) : lx_X8_pivots nc C Q 36 [.ref (240), .int (x1), tf_z] [.int (y0)] h := by
  refine tf_LW_go ?_
  exact ⟨q.1, fun c1 => (q.2 c1)⟩
set_option maxRecDepth 100000 in
theorem go_X8_pivots_46 {nc : Nat} {C : tf_C} {Q : tf_Q} {h : LH} (hn : 270 ≤ nc) {x1 : Int32} {x2 : Int32} (q : lx_X8_pivots nc C Q 47 [.ref (240), .int (x1), .int (x2)] [.int (0), .ref (240)] h) : lx_X8_pivots nc C Q 46 [.ref (240), .int (x1), .int (x2)] [.ref (240)] h := by
  refine tf_LW_go ?_
  exact q
set_option maxRecDepth 100000 in
theorem go_X8_pivots_47 {nc : Nat} {C : tf_C} {Q : tf_Q} {h : LH} (hn : 270 ≤ nc) {x1 : Int32} {x2 : Int32} {y1 : Int32} (q : C 216 [.ref (240), .int (y1)] h (fun r g => lx_X8_pivots nc C Q 50 [.ref (240), .int (x1), .int (x2)] (r :: []) g)) : lx_X8_pivots nc C Q 47 [.ref (240), .int (x1), .int (x2)] [.int (y1), .ref (240)] h := by
  refine tf_LW_go ?_
  exact ⟨Nat.le_of_ble_eq_true rfl, Nat.le_of_ble_eq_true rfl, q⟩
set_option maxRecDepth 100000 in
theorem go_X8_pivots_50 {nc : Nat} {C : tf_C} {Q : tf_Q} {h : LH} (hn : 270 ≤ nc) {x1 : Int32} {x2 : Int32} {y0 : Int32} (q : Q (.int (x2)) h) : lx_X8_pivots nc C Q 50 [.ref (240), .int (x1), .int (x2)] [.int (y0)] h := by
  refine tf_LW_go ?_
  exact ⟨(by first | trivial | rfl), q⟩
abbrev lx_X8_rule (nc : Nat) (C : tf_C) (Q : tf_Q) : tf_X := tf_LW nc C (tf_F 6) (tf_M 6) (tf_I 6) (tf_Eh 186) 2 tb_X8_rule Q
set_option maxRecDepth 100000 in
theorem go_X8_rule_0 {nc : Nat} {C : tf_C} {Q : tf_Q} {h : LH} (hn : 270 ≤ nc) {x1 : Int32} (q : C 215 [.ref (240)] h (fun r g => lx_X8_rule nc C Q 4 [.ref (240), .int (x1)] [] g)) : lx_X8_rule nc C Q 0 [.ref (240), .int (x1)] [] h := by
  refine tf_LW_go ?_
  exact ⟨Nat.le_of_ble_eq_true rfl, Nat.le_of_ble_eq_true rfl, q⟩
theorem en_X8_rule {nc d : Nat} {Q : tf_Q} {h : LH} (hn : 270 ≤ nc) {x1 : Int32} (q : lx_X8_rule nc (tf_Cd nc d) Q 0 [.ref (240), .int (x1)] [] h) : tf_Cd nc (d + 1) 186 [.ref (240), .int (x1)] h Q := by
  exact ⟨⟨Nat.le_of_ble_eq_true rfl, Or.inr ⟨rfl, (show 240 < nc by omega)⟩⟩, q⟩
set_option maxRecDepth 100000 in
theorem go_X8_rule_4 {nc : Nat} {C : tf_C} {Q : tf_Q} {h : LH} (hn : 270 ≤ nc) {x1 : Int32} (q : C 123 [.ref (0), .int (x1)] h (fun r g => lx_X8_rule nc C Q 13 [.ref (240), .int (x1)] (r :: [.ref (240)]) g)) : lx_X8_rule nc C Q 4 [.ref (240), .int (x1)] [] h := by
  refine tf_LW_go ?_
  exact ⟨⟨(by first | rfl | trivial), (show 240 < nc by omega)⟩, ⟨Nat.le_of_ble_eq_true rfl, Nat.le_of_ble_eq_true rfl, q⟩⟩
set_option maxRecDepth 100000 in
theorem go_X8_rule_13 {nc : Nat} {C : tf_C} {Q : tf_Q} {h : LH} (hn : 270 ≤ nc) {x1 : Int32} {y1 : Int32} (q : C 216 [.ref (240), .int (y1)] h (fun r g => lx_X8_rule nc C Q 16 [.ref (240), .int (x1)] (r :: []) g)) : lx_X8_rule nc C Q 13 [.ref (240), .int (x1)] [.int (y1), .ref (240)] h := by
  refine tf_LW_go ?_
  exact ⟨Nat.le_of_ble_eq_true rfl, Nat.le_of_ble_eq_true rfl, q⟩
set_option maxRecDepth 100000 in
theorem go_X8_rule_16 {nc : Nat} {C : tf_C} {Q : tf_Q} {h : LH} (hn : 270 ≤ nc) {x1 : Int32} {y0 : Int32} (q : (vp_nar .boolean (y0) = (y0)) ∧ Q (.int (y0)) h) : lx_X8_rule nc C Q 16 [.ref (240), .int (x1)] [.int (y0)] h := by
  refine tf_LW_go ?_
  exact q
abbrev lx_X8_shift (nc : Nat) (C : tf_C) (Q : tf_Q) : tf_X := tf_LW nc C (tf_F 6) (tf_M 6) (tf_I 6) (tf_Eh 187) 2 tb_X8_shift Q
set_option maxRecDepth 100000 in
theorem go_X8_shift_0 {nc : Nat} {C : tf_C} {Q : tf_Q} {h : LH} (hn : 270 ≤ nc) {x1 : Int32} {x2 : Int32} {x3 : Int32} (q : C 215 [.ref (240)] h (fun r g => lx_X8_shift nc C Q 4 [.ref (240), .int (x1), .int (x2), .int (x3)] [] g)) : lx_X8_shift nc C Q 0 [.ref (240), .int (x1), .int (x2), .int (x3)] [] h := by
  refine tf_LW_go ?_
  exact ⟨Nat.le_of_ble_eq_true rfl, Nat.le_of_ble_eq_true rfl, q⟩
theorem en_X8_shift {nc d : Nat} {Q : tf_Q} {h : LH} (hn : 270 ≤ nc) {x1 : Int32} {x2 : Int32} {x3 : Int32} (q : lx_X8_shift nc (tf_Cd nc d) Q 0 [.ref (240), .int (x1), .int (x2), .int (x3)] [] h) : tf_Cd nc (d + 1) 187 [.ref (240), .int (x1), .int (x2), .int (x3)] h Q := by
  exact ⟨⟨Nat.le_of_ble_eq_true rfl, Or.inr ⟨rfl, (show 240 < nc by omega)⟩⟩, q⟩
set_option maxRecDepth 100000 in
theorem go_X8_shift_4 {nc : Nat} {C : tf_C} {Q : tf_Q} {h : LH} (hn : 270 ≤ nc) {x1 : Int32} {x2 : Int32} {x3 : Int32} (q : C 124 [.ref (0), .int (x1), .int (x2), .int (x3)] h (fun r g => lx_X8_shift nc C Q 15 [.ref (240), .int (x1), .int (x2), .int (x3)] (r :: [.ref (240)]) g)) : lx_X8_shift nc C Q 4 [.ref (240), .int (x1), .int (x2), .int (x3)] [] h := by
  refine tf_LW_go ?_
  exact ⟨⟨(by first | rfl | trivial), (show 240 < nc by omega)⟩, ⟨Nat.le_of_ble_eq_true rfl, Nat.le_of_ble_eq_true rfl, q⟩⟩
set_option maxRecDepth 100000 in
theorem go_X8_shift_15 {nc : Nat} {C : tf_C} {Q : tf_Q} {h : LH} (hn : 270 ≤ nc) {x1 : Int32} {x2 : Int32} {x3 : Int32} {y1 : Int32} (q : C 216 [.ref (240), .int (y1)] h (fun r g => lx_X8_shift nc C Q 18 [.ref (240), .int (x1), .int (x2), .int (x3)] (r :: []) g)) : lx_X8_shift nc C Q 15 [.ref (240), .int (x1), .int (x2), .int (x3)] [.int (y1), .ref (240)] h := by
  refine tf_LW_go ?_
  exact ⟨Nat.le_of_ble_eq_true rfl, Nat.le_of_ble_eq_true rfl, q⟩
set_option maxRecDepth 100000 in
theorem go_X8_shift_18 {nc : Nat} {C : tf_C} {Q : tf_Q} {h : LH} (hn : 270 ≤ nc) {x1 : Int32} {x2 : Int32} {x3 : Int32} {y0 : Int32} (q : (vp_nar .boolean (y0) = (y0)) ∧ Q (.int (y0)) h) : lx_X8_shift nc C Q 18 [.ref (240), .int (x1), .int (x2), .int (x3)] [.int (y0)] h := by
  refine tf_LW_go ?_
  exact q
abbrev lx_X8_block (nc : Nat) (C : tf_C) (Q : tf_Q) : tf_X := tf_LW nc C (tf_F 6) (tf_M 6) (tf_I 6) (tf_Eh 188) 2 tb_X8_block Q
set_option maxRecDepth 100000 in
theorem go_X8_block_0 {nc : Nat} {C : tf_C} {Q : tf_Q} {h : LH} (hn : 270 ≤ nc) {x1 : Int32} {x2 : Int32} (q : C 215 [.ref (240)] h (fun r g => lx_X8_block nc C Q 4 [.ref (240), .int (x1), .int (x2)] [] g)) : lx_X8_block nc C Q 0 [.ref (240), .int (x1), .int (x2)] [] h := by
  refine tf_LW_go ?_
  exact ⟨Nat.le_of_ble_eq_true rfl, Nat.le_of_ble_eq_true rfl, q⟩
theorem en_X8_block {nc d : Nat} {Q : tf_Q} {h : LH} (hn : 270 ≤ nc) {x1 : Int32} {x2 : Int32} (q : lx_X8_block nc (tf_Cd nc d) Q 0 [.ref (240), .int (x1), .int (x2)] [] h) : tf_Cd nc (d + 1) 188 [.ref (240), .int (x1), .int (x2)] h Q := by
  exact ⟨⟨Nat.le_of_ble_eq_true rfl, Or.inr ⟨rfl, (show 240 < nc by omega)⟩⟩, q⟩
set_option maxRecDepth 100000 in
theorem go_X8_block_4 {nc : Nat} {C : tf_C} {Q : tf_Q} {h : LH} (hn : 270 ≤ nc) {x1 : Int32} {x2 : Int32} (q : C 125 [.ref (0), .int (x1), .int (x2)] h (fun r g => lx_X8_block nc C Q 14 [.ref (240), .int (x1), .int (x2)] (r :: [.ref (240)]) g)) : lx_X8_block nc C Q 4 [.ref (240), .int (x1), .int (x2)] [] h := by
  refine tf_LW_go ?_
  exact ⟨⟨(by first | rfl | trivial), (show 240 < nc by omega)⟩, ⟨Nat.le_of_ble_eq_true rfl, Nat.le_of_ble_eq_true rfl, q⟩⟩
set_option maxRecDepth 100000 in
theorem go_X8_block_14 {nc : Nat} {C : tf_C} {Q : tf_Q} {h : LH} (hn : 270 ≤ nc) {x1 : Int32} {x2 : Int32} {y1 : Int32} (q : C 216 [.ref (240), .int (y1)] h (fun r g => lx_X8_block nc C Q 17 [.ref (240), .int (x1), .int (x2)] (r :: []) g)) : lx_X8_block nc C Q 14 [.ref (240), .int (x1), .int (x2)] [.int (y1), .ref (240)] h := by
  refine tf_LW_go ?_
  exact ⟨Nat.le_of_ble_eq_true rfl, Nat.le_of_ble_eq_true rfl, q⟩
set_option maxRecDepth 100000 in
theorem go_X8_block_17 {nc : Nat} {C : tf_C} {Q : tf_Q} {h : LH} (hn : 270 ≤ nc) {x1 : Int32} {x2 : Int32} {y0 : Int32} (q : (vp_nar .boolean (y0) = (y0)) ∧ Q (.int (y0)) h) : lx_X8_block nc C Q 17 [.ref (240), .int (x1), .int (x2)] [.int (y0)] h := by
  refine tf_LW_go ?_
  exact q
abbrev lx_X8_widen (nc : Nat) (C : tf_C) (Q : tf_Q) : tf_X := tf_LW nc C (tf_F 6) (tf_M 6) (tf_I 6) (tf_Eh 189) 2 tb_X8_widen Q
set_option maxRecDepth 100000 in
theorem go_X8_widen_0 {nc : Nat} {C : tf_C} {Q : tf_Q} {h : LH} (hn : 270 ≤ nc) {x1 : Int32} {x2 : Int32} (q : C 215 [.ref (240)] h (fun r g => lx_X8_widen nc C Q 4 [.ref (240), .int (x1), .int (x2)] [] g)) : lx_X8_widen nc C Q 0 [.ref (240), .int (x1), .int (x2)] [] h := by
  refine tf_LW_go ?_
  exact ⟨Nat.le_of_ble_eq_true rfl, Nat.le_of_ble_eq_true rfl, q⟩
theorem en_X8_widen {nc d : Nat} {Q : tf_Q} {h : LH} (hn : 270 ≤ nc) {x1 : Int32} {x2 : Int32} (q : lx_X8_widen nc (tf_Cd nc d) Q 0 [.ref (240), .int (x1), .int (x2)] [] h) : tf_Cd nc (d + 1) 189 [.ref (240), .int (x1), .int (x2)] h Q := by
  exact ⟨⟨Nat.le_of_ble_eq_true rfl, Or.inr ⟨rfl, (show 240 < nc by omega)⟩⟩, q⟩
set_option maxRecDepth 100000 in
theorem go_X8_widen_4 {nc : Nat} {C : tf_C} {Q : tf_Q} {h : LH} (hn : 270 ≤ nc) {x1 : Int32} {x2 : Int32} (q : C 126 [.ref (0), .int (x1), .int (x2)] h (fun r g => lx_X8_widen nc C Q 14 [.ref (240), .int (x1), .int (x2)] (r :: [.ref (240)]) g)) : lx_X8_widen nc C Q 4 [.ref (240), .int (x1), .int (x2)] [] h := by
  refine tf_LW_go ?_
  exact ⟨⟨(by first | rfl | trivial), (show 240 < nc by omega)⟩, ⟨Nat.le_of_ble_eq_true rfl, Nat.le_of_ble_eq_true rfl, q⟩⟩
set_option maxRecDepth 100000 in
theorem go_X8_widen_14 {nc : Nat} {C : tf_C} {Q : tf_Q} {h : LH} (hn : 270 ≤ nc) {x1 : Int32} {x2 : Int32} {y1 : Int32} (q : C 216 [.ref (240), .int (y1)] h (fun r g => lx_X8_widen nc C Q 17 [.ref (240), .int (x1), .int (x2)] (r :: []) g)) : lx_X8_widen nc C Q 14 [.ref (240), .int (x1), .int (x2)] [.int (y1), .ref (240)] h := by
  refine tf_LW_go ?_
  exact ⟨Nat.le_of_ble_eq_true rfl, Nat.le_of_ble_eq_true rfl, q⟩
set_option maxRecDepth 100000 in
theorem go_X8_widen_17 {nc : Nat} {C : tf_C} {Q : tf_Q} {h : LH} (hn : 270 ≤ nc) {x1 : Int32} {x2 : Int32} {y0 : Int32} (q : (vp_nar .boolean (y0) = (y0)) ∧ Q (.int (y0)) h) : lx_X8_widen nc C Q 17 [.ref (240), .int (x1), .int (x2)] [.int (y0)] h := by
  refine tf_LW_go ?_
  exact q
abbrev lx_X8_charge (nc : Nat) (C : tf_C) (Q : tf_Q) : tf_X := tf_LW nc C (tf_F 6) (tf_M 6) (tf_I 6) (tf_Eh 190) 2 tb_X8_charge Q
set_option maxRecDepth 100000 in
theorem go_X8_charge_0 {nc : Nat} {C : tf_C} {Q : tf_Q} {h : LH} (hn : 270 ≤ nc) {x1 : Int32} {x2 : Int32} (q : C 215 [.ref (240)] h (fun r g => lx_X8_charge nc C Q 4 [.ref (240), .int (x1), .int (x2)] [] g)) : lx_X8_charge nc C Q 0 [.ref (240), .int (x1), .int (x2)] [] h := by
  refine tf_LW_go ?_
  exact ⟨Nat.le_of_ble_eq_true rfl, Nat.le_of_ble_eq_true rfl, q⟩
theorem en_X8_charge {nc d : Nat} {Q : tf_Q} {h : LH} (hn : 270 ≤ nc) {x1 : Int32} {x2 : Int32} (q : lx_X8_charge nc (tf_Cd nc d) Q 0 [.ref (240), .int (x1), .int (x2)] [] h) : tf_Cd nc (d + 1) 190 [.ref (240), .int (x1), .int (x2)] h Q := by
  exact ⟨⟨Nat.le_of_ble_eq_true rfl, Or.inr ⟨rfl, (show 240 < nc by omega)⟩⟩, q⟩
set_option maxRecDepth 100000 in
theorem go_X8_charge_4 {nc : Nat} {C : tf_C} {Q : tf_Q} {h : LH} (hn : 270 ≤ nc) {x1 : Int32} {x2 : Int32} (q : C 127 [.ref (0), .int (x1), .int (x2)] h (fun r g => lx_X8_charge nc C Q 14 [.ref (240), .int (x1), .int (x2)] (r :: [.ref (240)]) g)) : lx_X8_charge nc C Q 4 [.ref (240), .int (x1), .int (x2)] [] h := by
  refine tf_LW_go ?_
  exact ⟨⟨(by first | rfl | trivial), (show 240 < nc by omega)⟩, ⟨Nat.le_of_ble_eq_true rfl, Nat.le_of_ble_eq_true rfl, q⟩⟩
set_option maxRecDepth 100000 in
theorem go_X8_charge_14 {nc : Nat} {C : tf_C} {Q : tf_Q} {h : LH} (hn : 270 ≤ nc) {x1 : Int32} {x2 : Int32} {y1 : Int32} (q : C 216 [.ref (240), .int (y1)] h (fun r g => lx_X8_charge nc C Q 17 [.ref (240), .int (x1), .int (x2)] (r :: []) g)) : lx_X8_charge nc C Q 14 [.ref (240), .int (x1), .int (x2)] [.int (y1), .ref (240)] h := by
  refine tf_LW_go ?_
  exact ⟨Nat.le_of_ble_eq_true rfl, Nat.le_of_ble_eq_true rfl, q⟩
set_option maxRecDepth 100000 in
theorem go_X8_charge_17 {nc : Nat} {C : tf_C} {Q : tf_Q} {h : LH} (hn : 270 ≤ nc) {x1 : Int32} {x2 : Int32} {y0 : Int32} (q : (vp_nar .boolean (y0) = (y0)) ∧ Q (.int (y0)) h) : lx_X8_charge nc C Q 17 [.ref (240), .int (x1), .int (x2)] [.int (y0)] h := by
  refine tf_LW_go ?_
  exact q
abbrev lx_X8_cold (nc : Nat) (C : tf_C) (Q : tf_Q) : tf_X := tf_LW nc C (tf_F 6) (tf_M 6) (tf_I 6) (tf_Eh 191) 0 tb_X8_cold Q
set_option maxRecDepth 100000 in
theorem go_X8_cold_0 {nc : Nat} {C : tf_C} {Q : tf_Q} {h : LH} (hn : 270 ≤ nc) (q : C 215 [.ref (240)] h (fun r g => lx_X8_cold nc C Q 4 [.ref (240)] [] g)) : lx_X8_cold nc C Q 0 [.ref (240)] [] h := by
  refine tf_LW_go ?_
  exact ⟨Nat.le_of_ble_eq_true rfl, Nat.le_of_ble_eq_true rfl, q⟩
theorem en_X8_cold {nc d : Nat} {Q : tf_Q} {h : LH} (hn : 270 ≤ nc) (q : lx_X8_cold nc (tf_Cd nc d) Q 0 [.ref (240)] [] h) : tf_Cd nc (d + 1) 191 [.ref (240)] h Q := by
  exact ⟨⟨Nat.le_of_ble_eq_true rfl, Or.inr ⟨rfl, (show 240 < nc by omega)⟩⟩, q⟩
set_option maxRecDepth 100000 in
theorem go_X8_cold_4 {nc : Nat} {C : tf_C} {Q : tf_Q} {h : LH} (hn : 270 ≤ nc) (q : C 128 [.ref (0), .int (0)] h (fun r g => lx_X8_cold nc C Q 12 [.ref (240)] [] g)) : lx_X8_cold nc C Q 4 [.ref (240)] [] h := by
  refine tf_LW_go ?_
  exact ⟨⟨(by first | rfl | trivial), (show 240 < nc by omega)⟩, ⟨Nat.le_of_ble_eq_true rfl, Nat.le_of_ble_eq_true rfl, q⟩⟩
set_option maxRecDepth 100000 in
theorem go_X8_cold_12 {nc : Nat} {C : tf_C} {Q : tf_Q} {h : LH} (hn : 270 ≤ nc) (q : C 216 [.ref (240), .int (1)] h (fun r g => lx_X8_cold nc C Q 17 [.ref (240)] (r :: []) g)) : lx_X8_cold nc C Q 12 [.ref (240)] [] h := by
  refine tf_LW_go ?_
  exact ⟨Nat.le_of_ble_eq_true rfl, Nat.le_of_ble_eq_true rfl, q⟩
set_option maxRecDepth 100000 in
theorem go_X8_cold_17 {nc : Nat} {C : tf_C} {Q : tf_Q} {h : LH} (hn : 270 ≤ nc) {y0 : Int32} (q : Q tf_z h) : lx_X8_cold nc C Q 17 [.ref (240)] [.int (y0)] h := by
  refine tf_LW_go ?_
  exact ⟨(by first | rfl | trivial), q⟩
abbrev lx_X8_work (nc : Nat) (C : tf_C) (Q : tf_Q) : tf_X := tf_LW nc C (tf_F 6) (tf_M 6) (tf_I 6) (tf_Eh 192) 1 tb_X8_work Q
set_option maxRecDepth 100000 in
theorem go_X8_work_0 {nc : Nat} {C : tf_C} {Q : tf_Q} {h : LH} (hn : 270 ≤ nc) (q : C 222 [.ref (259), .ref (251), .int (1)] h (fun r g => lx_X8_work nc C Q 12 [.ref (240), tf_z] [] g)) : lx_X8_work nc C Q 0 [.ref (240), tf_z] [] h := by
  refine tf_LW_go ?_
  exact ⟨⟨(by first | rfl | trivial), (show 240 < nc by omega)⟩, ⟨⟨(by first | rfl | trivial), (show 240 < nc by omega)⟩, ⟨Nat.le_of_ble_eq_true rfl, Nat.le_of_ble_eq_true rfl, q⟩⟩⟩
theorem en_X8_work {nc d : Nat} {Q : tf_Q} {h : LH} (hn : 270 ≤ nc) (q : lx_X8_work nc (tf_Cd nc d) Q 0 [.ref (240), tf_z] [] h) : tf_Cd nc (d + 1) 192 [.ref (240)] h Q := by
  exact ⟨⟨Nat.le_of_ble_eq_true rfl, Or.inr ⟨rfl, (show 240 < nc by omega)⟩⟩, q⟩
set_option maxRecDepth 100000 in
theorem go_X8_work_12 {nc : Nat} {C : tf_C} {Q : tf_Q} {h : LH} (hn : 270 ≤ nc) (q : ((h.1 259 1) = (0 : Int32) → C 238 [.ref (259)] h (fun r g => lx_X8_work nc C Q 29 [.ref (240), tf_z] [] g)) ∧ (¬ (h.1 259 1) = (0 : Int32) → lx_X8_work nc C Q 29 [.ref (240), tf_z] [] h)) : lx_X8_work nc C Q 12 [.ref (240), tf_z] [] h := by
  refine tf_LW_go ?_
  exact ⟨⟨(by first | rfl | trivial), (show 240 < nc by omega)⟩, ⟨⟨(by first | rfl | trivial), (show 259 < nc by omega)⟩, ⟨fun c1 => ⟨⟨(by first | rfl | trivial), (show 240 < nc by omega)⟩, ⟨Nat.le_of_ble_eq_true rfl, Nat.le_of_ble_eq_true rfl, (q.1 c1)⟩⟩, q.2⟩⟩⟩
set_option maxRecDepth 100000 in
theorem go_X8_work_29 {nc : Nat} {C : tf_C} {Q : tf_Q} {h : LH} (hn : 270 ≤ nc) (q : C 214 [.ref (240)] h (fun r g => lx_X8_work nc C Q 33 [.ref (240), tf_z] [] g)) : lx_X8_work nc C Q 29 [.ref (240), tf_z] [] h := by
  refine tf_LW_go ?_
  exact ⟨Nat.le_of_ble_eq_true rfl, Nat.le_of_ble_eq_true rfl, q⟩
set_option maxRecDepth 100000 in
theorem go_X8_work_33 {nc : Nat} {C : tf_C} {Q : tf_Q} {h : LH} (hn : 270 ≤ nc) (q : ((h.1 259 1) = (0 : Int32) → lx_X8_work nc C Q 45 [.ref (240), tf_z] [] h) ∧ (¬ (h.1 259 1) = (0 : Int32) → Q (.int ((-1))) h)) : lx_X8_work nc C Q 33 [.ref (240), tf_z] [] h := by
  refine tf_LW_go ?_
  exact ⟨⟨(by first | rfl | trivial), (show 240 < nc by omega)⟩, ⟨⟨(by first | rfl | trivial), (show 259 < nc by omega)⟩, ⟨q.1, fun c1 => ⟨(by first | trivial | rfl), (q.2 c1)⟩⟩⟩⟩
set_option maxRecDepth 100000 in
theorem go_X8_work_45 {nc : Nat} {C : tf_C} {Q : tf_Q} {h : LH} (hn : 270 ≤ nc) (q : C 215 [.ref (240)] h (fun r g => lx_X8_work nc C Q 49 [.ref (240), tf_z] [] g)) : lx_X8_work nc C Q 45 [.ref (240), tf_z] [] h := by
  refine tf_LW_go ?_
  exact ⟨Nat.le_of_ble_eq_true rfl, Nat.le_of_ble_eq_true rfl, q⟩
set_option maxRecDepth 100000 in
theorem go_X8_work_49 {nc : Nat} {C : tf_C} {Q : tf_Q} {h : LH} (hn : 270 ≤ nc) (q : lx_X8_work nc C Q 51 [.ref (240), .int (0)] [] h) : lx_X8_work nc C Q 49 [.ref (240), tf_z] [] h := by
  refine tf_LW_go ?_
  exact q
set_option maxRecDepth 100000 in
theorem go_X8_work_51 {nc : Nat} {C : tf_C} {Q : tf_Q} {h : LH} (hn : 270 ≤ nc) {x1 : Int32} (q : ((h.1 259 0) ≤ x1 → lx_X8_work nc C Q 87 [.ref (240), .int (x1)] [] h) ∧ (¬ (h.1 259 0) ≤ x1 → C 241 [.ref (259), .int (x1), .ref (0), .ref (241)] h (fun r g => lx_X8_work nc C Q 78 [.ref (240), .int (x1)] (r :: []) g))) : lx_X8_work nc C Q 51 [.ref (240), .int (x1)] [] h := by
  refine tf_LW_go ?_
  exact ⟨⟨(by first | rfl | trivial), (show 240 < nc by omega)⟩, ⟨⟨(by first | rfl | trivial), (show 259 < nc by omega)⟩, ⟨q.1, fun c1 => ⟨⟨(by first | rfl | trivial), (show 240 < nc by omega)⟩, ⟨⟨(by first | rfl | trivial), (show 240 < nc by omega)⟩, ⟨⟨(by first | rfl | trivial), (show 240 < nc by omega)⟩, ⟨Nat.le_of_ble_eq_true rfl, Nat.le_of_ble_eq_true rfl, (q.2 c1)⟩⟩⟩⟩⟩⟩⟩
set_option maxRecDepth 100000 in
theorem go_X8_work_78 {nc : Nat} {C : tf_C} {Q : tf_Q} {h : LH} (hn : 270 ≤ nc) {x1 : Int32} {y0 : Int32} (q : (y0 = (0 : Int32) → lx_X8_work nc C Q 87 [.ref (240), .int (x1)] [] h) ∧ (¬ y0 = (0 : Int32) → lx_X8_work nc C Q 51 [.ref (240), .int (x1 + 1)] [] h)) : lx_X8_work nc C Q 78 [.ref (240), .int (x1)] [.int (y0)] h := by
  refine tf_LW_go ?_
  exact ⟨q.1, fun c1 => (q.2 c1)⟩
set_option maxRecDepth 100000 in
theorem go_X8_work_87 {nc : Nat} {C : tf_C} {Q : tf_Q} {h : LH} (hn : 270 ≤ nc) {x1 : Int32} (q : (x1 ≤ (0 : Int32) → lx_X8_work nc C Q 96 [.ref (240), .int (x1)] [.ref (240)] h) ∧ (¬ x1 ≤ (0 : Int32) → lx_X8_work nc C Q 97 [.ref (240), .int (x1)] [.int (1), .ref (240)] h)) : lx_X8_work nc C Q 87 [.ref (240), .int (x1)] [] h := by
  refine tf_LW_go ?_
  exact ⟨q.1, fun c1 => (q.2 c1)⟩
set_option maxRecDepth 100000 in
theorem go_X8_work_96 {nc : Nat} {C : tf_C} {Q : tf_Q} {h : LH} (hn : 270 ≤ nc) {x1 : Int32} (q : lx_X8_work nc C Q 97 [.ref (240), .int (x1)] [.int (0), .ref (240)] h) : lx_X8_work nc C Q 96 [.ref (240), .int (x1)] [.ref (240)] h := by
  refine tf_LW_go ?_
  exact q
set_option maxRecDepth 100000 in
theorem go_X8_work_97 {nc : Nat} {C : tf_C} {Q : tf_Q} {h : LH} (hn : 270 ≤ nc) {x1 : Int32} {y1 : Int32} (q : C 216 [.ref (240), .int (y1)] h (fun r g => lx_X8_work nc C Q 100 [.ref (240), .int (x1)] (r :: []) g)) : lx_X8_work nc C Q 97 [.ref (240), .int (x1)] [.int (y1), .ref (240)] h := by
  refine tf_LW_go ?_
  exact ⟨Nat.le_of_ble_eq_true rfl, Nat.le_of_ble_eq_true rfl, q⟩
set_option maxRecDepth 100000 in
theorem go_X8_work_100 {nc : Nat} {C : tf_C} {Q : tf_Q} {h : LH} (hn : 270 ≤ nc) {x1 : Int32} {y0 : Int32} (q : Q (.int (x1)) h) : lx_X8_work nc C Q 100 [.ref (240), .int (x1)] [.int (y0)] h := by
  refine tf_LW_go ?_
  exact ⟨(by first | trivial | rfl), q⟩
abbrev lx_X8_undo (nc : Nat) (C : tf_C) (Q : tf_Q) : tf_X := tf_LW nc C (tf_F 6) (tf_M 6) (tf_I 6) (tf_Eh 193) 1 tb_X8_undo Q
set_option maxRecDepth 100000 in
theorem go_X8_undo_0 {nc : Nat} {C : tf_C} {Q : tf_Q} {h : LH} (hn : 270 ≤ nc) (q : ((h.1 240 9) = (0 : Int32) → Q (.int ((-1))) h) ∧ (¬ (h.1 240 9) = (0 : Int32) → lx_X8_undo nc C Q 9 [.ref (240)] [] h)) : lx_X8_undo nc C Q 0 [.ref (240)] [] h := by
  refine tf_LW_go ?_
  exact ⟨⟨(by first | rfl | trivial), (show 240 < nc by omega)⟩, ⟨fun c1 => ⟨(by first | trivial | rfl), (q.1 c1)⟩, q.2⟩⟩
theorem en_X8_undo {nc d : Nat} {Q : tf_Q} {h : LH} (hn : 270 ≤ nc) (q : lx_X8_undo nc (tf_Cd nc d) Q 0 [.ref (240)] [] h) : tf_Cd nc (d + 1) 193 [.ref (240)] h Q := by
  exact ⟨⟨Nat.le_of_ble_eq_true rfl, Or.inr ⟨rfl, (show 240 < nc by omega)⟩⟩, q⟩
set_option maxRecDepth 100000 in
theorem go_X8_undo_9 {nc : Nat} {C : tf_C} {Q : tf_Q} {h : LH} (hn : 270 ≤ nc) (q : ((h.1 240 8) = (0 : Int32) → lx_X8_undo nc C Q 28 [.ref (240)] [.int (10), .ref (240)] h) ∧ (¬ (h.1 240 8) = (0 : Int32) → lx_X8_undo nc C Q 22 [.ref (240)] [.ref (240)] h)) : lx_X8_undo nc C Q 9 [.ref (240)] [] h := by
  refine tf_LW_go ?_
  exact ⟨⟨(by first | rfl | trivial), (show 240 < nc by omega)⟩, ⟨fun c1 => (q.1 c1), q.2⟩⟩
set_option maxRecDepth 100000 in
theorem go_X8_undo_22 {nc : Nat} {C : tf_C} {Q : tf_Q} {h : LH} (hn : 270 ≤ nc) (q : lx_X8_undo nc C Q 28 [.ref (240)] [.int ((h.1 240 8) - 1), .ref (240)] h) : lx_X8_undo nc C Q 22 [.ref (240)] [.ref (240)] h := by
  refine tf_LW_go ?_
  exact ⟨⟨(by first | rfl | trivial), (show 240 < nc by omega)⟩, q⟩
set_option maxRecDepth 100000 in
theorem go_X8_undo_28 {nc : Nat} {C : tf_C} {Q : tf_Q} {h : LH} (hn : 270 ≤ nc) {y1 : Int32} (q : (vp_in ((tf_up (tf_up h.1 240 8 y1) 240 9 (((tf_up h.1 240 8 y1) 240 9) - 1)) 240 8) 11) ∧ C 116 [.ref (0), .ref (tf_R 266 ((tf_up (tf_up h.1 240 8 y1) 240 9 (((tf_up h.1 240 8 y1) 240 9) - 1)) 240 8 : Int32).toNatClampNeg)] (tf_up (tf_up h.1 240 8 y1) 240 9 (((tf_up h.1 240 8 y1) 240 9) - 1), h.2) (fun r g => lx_X8_undo nc C Q 57 [.ref (240)] [] g)) : lx_X8_undo nc C Q 28 [.ref (240)] [.int (y1), .ref (240)] h := by
  refine tf_LW_go ?_
  exact ⟨⟨(by first | rfl | trivial), (show 240 < nc by omega), (by first | rfl | trivial)⟩, ⟨⟨(by first | rfl | trivial), (show 240 < nc by omega)⟩, ⟨⟨(by first | rfl | trivial), (show 240 < nc by omega), (by first | rfl | trivial)⟩, ⟨⟨(by first | rfl | trivial), (show 240 < nc by omega)⟩, ⟨⟨(by first | rfl | trivial), (show 240 < nc by omega)⟩, ⟨⟨(by first | rfl | trivial), (show 240 < nc by omega)⟩, ⟨⟨(Or.inl (by first | rfl | trivial)), (show 266 < nc by omega), q.1⟩, ⟨Nat.le_of_ble_eq_true rfl, Nat.le_of_ble_eq_true rfl, q.2⟩⟩⟩⟩⟩⟩⟩⟩
set_option maxRecDepth 100000 in
theorem go_X8_undo_57 {nc : Nat} {C : tf_C} {Q : tf_Q} {h : LH} (hn : 270 ≤ nc) (q : Q (.int (h.1 240 9)) h) : lx_X8_undo nc C Q 57 [.ref (240)] [] h := by
  refine tf_LW_go ?_
  exact ⟨⟨(by first | rfl | trivial), (show 240 < nc by omega)⟩, ⟨(by first | trivial | rfl), q⟩⟩
abbrev lx_X8_grid (nc : Nat) (C : tf_C) (Q : tf_Q) : tf_X := tf_LW nc C (tf_F 6) (tf_M 6) (tf_I 6) (tf_Eh 194) 1 tb_X8_grid Q
set_option maxRecDepth 100000 in
theorem go_X8_grid_0 {nc : Nat} {C : tf_C} {Q : tf_Q} {h : LH} (hn : 270 ≤ nc) {x1 : Int32} (q : (((x1 : Int32).toInt < 0 ∨ 11 < (x1 : Int32).toInt) → lx_X8_grid nc C Q 177 [.ref (240), .int (x1)] [] h) ∧ ((x1 : Int32).toInt = 0 → lx_X8_grid nc C Q 64 [.ref (240), .int (x1)] [] h) ∧ ((x1 : Int32).toInt = 1 → lx_X8_grid nc C Q 72 [.ref (240), .int (x1)] [] h) ∧ ((x1 : Int32).toInt = 2 → lx_X8_grid nc C Q 80 [.ref (240), .int (x1)] [] h) ∧ ((x1 : Int32).toInt = 3 → lx_X8_grid nc C Q 88 [.ref (240), .int (x1)] [] h) ∧ ((x1 : Int32).toInt = 4 → lx_X8_grid nc C Q 104 [.ref (240), .int (x1)] [] h) ∧ ((x1 : Int32).toInt = 5 → lx_X8_grid nc C Q 112 [.ref (240), .int (x1)] [] h) ∧ ((x1 : Int32).toInt = 6 → lx_X8_grid nc C Q 123 [.ref (240), .int (x1)] [] h) ∧ ((x1 : Int32).toInt = 7 → lx_X8_grid nc C Q 134 [.ref (240), .int (x1)] [] h) ∧ ((x1 : Int32).toInt = 8 → lx_X8_grid nc C Q 145 [.ref (240), .int (x1)] [] h) ∧ ((x1 : Int32).toInt = 9 → lx_X8_grid nc C Q 156 [.ref (240), .int (x1)] [] h) ∧ ((x1 : Int32).toInt = 10 → lx_X8_grid nc C Q 164 [.ref (240), .int (x1)] [] h) ∧ ((x1 : Int32).toInt = 11 → lx_X8_grid nc C Q 172 [.ref (240), .int (x1)] [] h) ∧ True) : lx_X8_grid nc C Q 0 [.ref (240), .int (x1)] [] h := by
  refine tf_LW_go ?_
  exact q
theorem en_X8_grid {nc d : Nat} {Q : tf_Q} {h : LH} (hn : 270 ≤ nc) {x1 : Int32} (q : lx_X8_grid nc (tf_Cd nc d) Q 0 [.ref (240), .int (x1)] [] h) : tf_Cd nc (d + 1) 194 [.ref (240), .int (x1)] h Q := by
  exact ⟨⟨Nat.le_of_ble_eq_true rfl, Or.inr ⟨rfl, (show 240 < nc by omega)⟩⟩, q⟩
set_option maxRecDepth 100000 in
theorem go_X8_grid_64 {nc : Nat} {C : tf_C} {Q : tf_Q} {h : LH} (hn : 270 ≤ nc) {x1 : Int32} (q : Q (.int (h.1 0 0)) h) : lx_X8_grid nc C Q 64 [.ref (240), .int (x1)] [] h := by
  refine tf_LW_go ?_
  exact ⟨⟨(by first | rfl | trivial), (show 240 < nc by omega)⟩, ⟨⟨(by first | rfl | trivial), (show 0 < nc by omega)⟩, ⟨(by first | trivial | rfl), q⟩⟩⟩
set_option maxRecDepth 100000 in
theorem go_X8_grid_72 {nc : Nat} {C : tf_C} {Q : tf_Q} {h : LH} (hn : 270 ≤ nc) {x1 : Int32} (q : Q (.int (h.1 0 1)) h) : lx_X8_grid nc C Q 72 [.ref (240), .int (x1)] [] h := by
  refine tf_LW_go ?_
  exact ⟨⟨(by first | rfl | trivial), (show 240 < nc by omega)⟩, ⟨⟨(by first | rfl | trivial), (show 0 < nc by omega)⟩, ⟨(by first | trivial | rfl), q⟩⟩⟩
set_option maxRecDepth 100000 in
theorem go_X8_grid_80 {nc : Nat} {C : tf_C} {Q : tf_Q} {h : LH} (hn : 270 ≤ nc) {x1 : Int32} (q : Q (.int (h.1 0 2)) h) : lx_X8_grid nc C Q 80 [.ref (240), .int (x1)] [] h := by
  refine tf_LW_go ?_
  exact ⟨⟨(by first | rfl | trivial), (show 240 < nc by omega)⟩, ⟨⟨(by first | rfl | trivial), (show 0 < nc by omega)⟩, ⟨(by first | trivial | rfl), q⟩⟩⟩
set_option maxRecDepth 100000 in
theorem go_X8_grid_88 {nc : Nat} {C : tf_C} {Q : tf_Q} {h : LH} (hn : 270 ≤ nc) {x1 : Int32} (q : C 134 [.ref (0)] h (fun r g => lx_X8_grid nc C Q 95 [.ref (240), .int (x1)] (r :: []) g)) : lx_X8_grid nc C Q 88 [.ref (240), .int (x1)] [] h := by
  refine tf_LW_go ?_
  exact ⟨⟨(by first | rfl | trivial), (show 240 < nc by omega)⟩, ⟨Nat.le_of_ble_eq_true rfl, Nat.le_of_ble_eq_true rfl, q⟩⟩
set_option maxRecDepth 100000 in
theorem go_X8_grid_95 {nc : Nat} {C : tf_C} {Q : tf_Q} {h : LH} (hn : 270 ≤ nc) {x1 : Int32} {y0 : Int32} (q : (y0 = (0 : Int32) → lx_X8_grid nc C Q 103 [.ref (240), .int (x1)] [.int (1)] h) ∧ (¬ y0 = (0 : Int32) → lx_X8_grid nc C Q 102 [.ref (240), .int (x1)] [] h)) : lx_X8_grid nc C Q 95 [.ref (240), .int (x1)] [.int (y0)] h := by
  refine tf_LW_go ?_
  exact ⟨fun c1 => (q.1 c1), q.2⟩
set_option maxRecDepth 100000 in
theorem go_X8_grid_102 {nc : Nat} {C : tf_C} {Q : tf_Q} {h : LH} (hn : 270 ≤ nc) {x1 : Int32} (q : lx_X8_grid nc C Q 103 [.ref (240), .int (x1)] [.int (0)] h) : lx_X8_grid nc C Q 102 [.ref (240), .int (x1)] [] h := by
  refine tf_LW_go ?_
  exact q
set_option maxRecDepth 100000 in
theorem go_X8_grid_103 {nc : Nat} {C : tf_C} {Q : tf_Q} {h : LH} (hn : 270 ≤ nc) {x1 : Int32} {y0 : Int32} (q : Q (.int (y0)) h) : lx_X8_grid nc C Q 103 [.ref (240), .int (x1)] [.int (y0)] h := by
  refine tf_LW_go ?_
  exact ⟨(by first | trivial | rfl), q⟩
set_option maxRecDepth 100000 in
theorem go_X8_grid_104 {nc : Nat} {C : tf_C} {Q : tf_Q} {h : LH} (hn : 270 ≤ nc) {x1 : Int32} (q : C 144 [.ref (0)] h (fun r g => lx_X8_grid nc C Q 111 [.ref (240), .int (x1)] (r :: []) g)) : lx_X8_grid nc C Q 104 [.ref (240), .int (x1)] [] h := by
  refine tf_LW_go ?_
  exact ⟨⟨(by first | rfl | trivial), (show 240 < nc by omega)⟩, ⟨Nat.le_of_ble_eq_true rfl, Nat.le_of_ble_eq_true rfl, q⟩⟩
set_option maxRecDepth 100000 in
theorem go_X8_grid_111 {nc : Nat} {C : tf_C} {Q : tf_Q} {h : LH} (hn : 270 ≤ nc) {x1 : Int32} {y0 : Int32} (q : Q (.int (y0)) h) : lx_X8_grid nc C Q 111 [.ref (240), .int (x1)] [.int (y0)] h := by
  refine tf_LW_go ?_
  exact ⟨(by first | trivial | rfl), q⟩
set_option maxRecDepth 100000 in
theorem go_X8_grid_112 {nc : Nat} {C : tf_C} {Q : tf_Q} {h : LH} (hn : 270 ≤ nc) {x1 : Int32} (q : Q (.int (h.1 11 0)) h) : lx_X8_grid nc C Q 112 [.ref (240), .int (x1)] [] h := by
  refine tf_LW_go ?_
  exact ⟨⟨(by first | rfl | trivial), (show 240 < nc by omega)⟩, ⟨⟨(by first | rfl | trivial), (show 0 < nc by omega)⟩, ⟨⟨(by first | rfl | trivial), (show 11 < nc by omega)⟩, ⟨(by first | trivial | rfl), q⟩⟩⟩⟩
set_option maxRecDepth 100000 in
theorem go_X8_grid_123 {nc : Nat} {C : tf_C} {Q : tf_Q} {h : LH} (hn : 270 ≤ nc) {x1 : Int32} (q : Q (.int (h.1 11 1)) h) : lx_X8_grid nc C Q 123 [.ref (240), .int (x1)] [] h := by
  refine tf_LW_go ?_
  exact ⟨⟨(by first | rfl | trivial), (show 240 < nc by omega)⟩, ⟨⟨(by first | rfl | trivial), (show 0 < nc by omega)⟩, ⟨⟨(by first | rfl | trivial), (show 11 < nc by omega)⟩, ⟨(by first | trivial | rfl), q⟩⟩⟩⟩
set_option maxRecDepth 100000 in
theorem go_X8_grid_134 {nc : Nat} {C : tf_C} {Q : tf_Q} {h : LH} (hn : 270 ≤ nc) {x1 : Int32} (q : Q (.int (h.1 11 2)) h) : lx_X8_grid nc C Q 134 [.ref (240), .int (x1)] [] h := by
  refine tf_LW_go ?_
  exact ⟨⟨(by first | rfl | trivial), (show 240 < nc by omega)⟩, ⟨⟨(by first | rfl | trivial), (show 0 < nc by omega)⟩, ⟨⟨(by first | rfl | trivial), (show 11 < nc by omega)⟩, ⟨(by first | trivial | rfl), q⟩⟩⟩⟩
set_option maxRecDepth 100000 in
theorem go_X8_grid_145 {nc : Nat} {C : tf_C} {Q : tf_Q} {h : LH} (hn : 270 ≤ nc) {x1 : Int32} (q : Q (.int (h.1 11 3)) h) : lx_X8_grid nc C Q 145 [.ref (240), .int (x1)] [] h := by
  refine tf_LW_go ?_
  exact ⟨⟨(by first | rfl | trivial), (show 240 < nc by omega)⟩, ⟨⟨(by first | rfl | trivial), (show 0 < nc by omega)⟩, ⟨⟨(by first | rfl | trivial), (show 11 < nc by omega)⟩, ⟨(by first | trivial | rfl), q⟩⟩⟩⟩
set_option maxRecDepth 100000 in
theorem go_X8_grid_156 {nc : Nat} {C : tf_C} {Q : tf_Q} {h : LH} (hn : 270 ≤ nc) {x1 : Int32} (q : C 134 [.ref (0)] h (fun r g => lx_X8_grid nc C Q 163 [.ref (240), .int (x1)] (r :: []) g)) : lx_X8_grid nc C Q 156 [.ref (240), .int (x1)] [] h := by
  refine tf_LW_go ?_
  exact ⟨⟨(by first | rfl | trivial), (show 240 < nc by omega)⟩, ⟨Nat.le_of_ble_eq_true rfl, Nat.le_of_ble_eq_true rfl, q⟩⟩
set_option maxRecDepth 100000 in
theorem go_X8_grid_163 {nc : Nat} {C : tf_C} {Q : tf_Q} {h : LH} (hn : 270 ≤ nc) {x1 : Int32} {y0 : Int32} (q : Q (.int (y0)) h) : lx_X8_grid nc C Q 163 [.ref (240), .int (x1)] [.int (y0)] h := by
  refine tf_LW_go ?_
  exact ⟨(by first | trivial | rfl), q⟩
set_option maxRecDepth 100000 in
theorem go_X8_grid_164 {nc : Nat} {C : tf_C} {Q : tf_Q} {h : LH} (hn : 270 ≤ nc) {x1 : Int32} (q : Q (.int (h.1 251 1)) h) : lx_X8_grid nc C Q 164 [.ref (240), .int (x1)] [] h := by
  refine tf_LW_go ?_
  exact ⟨⟨(by first | rfl | trivial), (show 240 < nc by omega)⟩, ⟨⟨(by first | rfl | trivial), (show 251 < nc by omega)⟩, ⟨(by first | trivial | rfl), q⟩⟩⟩
set_option maxRecDepth 100000 in
theorem go_X8_grid_172 {nc : Nat} {C : tf_C} {Q : tf_Q} {h : LH} (hn : 270 ≤ nc) {x1 : Int32} (q : Q (.int (h.1 240 9)) h) : lx_X8_grid nc C Q 172 [.ref (240), .int (x1)] [] h := by
  refine tf_LW_go ?_
  exact ⟨⟨(by first | rfl | trivial), (show 240 < nc by omega)⟩, ⟨(by first | trivial | rfl), q⟩⟩
set_option maxRecDepth 100000 in
theorem go_X8_grid_177 {nc : Nat} {C : tf_C} {Q : tf_Q} {h : LH} (hn : 270 ≤ nc) {x1 : Int32} (q : Q (.int ((-1))) h) : lx_X8_grid nc C Q 177 [.ref (240), .int (x1)] [] h := by
  refine tf_LW_go ?_
  exact ⟨(by first | trivial | rfl), q⟩
abbrev lx_X8_thread (nc : Nat) (C : tf_C) (Q : tf_Q) : tf_X := tf_LW nc C (tf_F 6) (tf_M 6) (tf_I 6) (tf_Eh 195) 1 tb_X8_thread Q
set_option maxRecDepth 100000 in
theorem go_X8_thread_0 {nc : Nat} {C : tf_C} {Q : tf_Q} {h : LH} (hn : 270 ≤ nc) {x1 : Int32} (q : (x1 < (0 : Int32) → lx_X8_thread nc C Q 15 [.ref (240), .int (x1), tf_z, tf_z] [] h) ∧ (¬ x1 < (0 : Int32) → (x1 < (h.1 0 0) → lx_X8_thread nc C Q 17 [.ref (240), .int (x1), tf_z, tf_z] [] h) ∧ (¬ x1 < (h.1 0 0) → lx_X8_thread nc C Q 15 [.ref (240), .int (x1), tf_z, tf_z] [] h))) : lx_X8_thread nc C Q 0 [.ref (240), .int (x1), tf_z, tf_z] [] h := by
  refine tf_LW_go ?_
  exact ⟨q.1, fun c2 => ⟨⟨(by first | rfl | trivial), (show 240 < nc by omega)⟩, ⟨⟨(by first | rfl | trivial), (show 0 < nc by omega)⟩, ⟨(q.2 c2).1, fun c1 => ((q.2 c2).2 c1)⟩⟩⟩⟩
theorem en_X8_thread {nc d : Nat} {Q : tf_Q} {h : LH} (hn : 270 ≤ nc) {x1 : Int32} (q : lx_X8_thread nc (tf_Cd nc d) Q 0 [.ref (240), .int (x1), tf_z, tf_z] [] h) : tf_Cd nc (d + 1) 195 [.ref (240), .int (x1)] h Q := by
  exact ⟨⟨Nat.le_of_ble_eq_true rfl, Or.inr ⟨rfl, (show 240 < nc by omega)⟩⟩, q⟩
set_option maxRecDepth 100000 in
theorem go_X8_thread_15 {nc : Nat} {C : tf_C} {Q : tf_Q} {h : LH} (hn : 270 ≤ nc) {x1 : Int32} (q : Q (.int ((-1))) h) : lx_X8_thread nc C Q 15 [.ref (240), .int (x1), tf_z, tf_z] [] h := by
  refine tf_LW_go ?_
  exact ⟨(by first | trivial | rfl), q⟩
set_option maxRecDepth 100000 in
theorem go_X8_thread_17 {nc : Nat} {C : tf_C} {Q : tf_Q} {h : LH} (hn : 270 ≤ nc) {x1 : Int32} (q : C 141 [.ref (0), .int (7), .int ((-1))] h (fun r g => lx_X8_thread nc C Q 27 [.ref (240), .int (x1), tf_z, tf_z] (r :: []) g)) : lx_X8_thread nc C Q 17 [.ref (240), .int (x1), tf_z, tf_z] [] h := by
  refine tf_LW_go ?_
  exact ⟨⟨(by first | rfl | trivial), (show 240 < nc by omega)⟩, ⟨Nat.le_of_ble_eq_true rfl, Nat.le_of_ble_eq_true rfl, q⟩⟩
set_option maxRecDepth 100000 in
theorem go_X8_thread_27 {nc : Nat} {C : tf_C} {Q : tf_Q} {h : LH} (hn : 270 ≤ nc) {x1 : Int32} {y0 : Int32} (q : lx_X8_thread nc C Q 30 [.ref (240), .int (x1), .int (y0), .int (0)] [] h) : lx_X8_thread nc C Q 27 [.ref (240), .int (x1), tf_z, tf_z] [.int (y0)] h := by
  refine tf_LW_go ?_
  exact q
set_option maxRecDepth 100000 in
theorem go_X8_thread_30 {nc : Nat} {C : tf_C} {Q : tf_Q} {h : LH} (hn : 270 ≤ nc) {x1 : Int32} {x2 : Int32} {x3 : Int32} (q : (x1 ≤ x3 → lx_X8_thread nc C Q 50 [.ref (240), .int (x1), .int (x2), .int (x3)] [] h) ∧ (¬ x1 ≤ x3 → C 142 [.ref (0), .int (x2)] h (fun r g => lx_X8_thread nc C Q 43 [.ref (240), .int (x1), .int (x2), .int (x3)] (r :: []) g))) : lx_X8_thread nc C Q 30 [.ref (240), .int (x1), .int (x2), .int (x3)] [] h := by
  refine tf_LW_go ?_
  exact ⟨q.1, fun c1 => ⟨⟨(by first | rfl | trivial), (show 240 < nc by omega)⟩, ⟨Nat.le_of_ble_eq_true rfl, Nat.le_of_ble_eq_true rfl, (q.2 c1)⟩⟩⟩
set_option maxRecDepth 100000 in
theorem go_X8_thread_43 {nc : Nat} {C : tf_C} {Q : tf_Q} {h : LH} (hn : 270 ≤ nc) {x1 : Int32} {x2 : Int32} {x3 : Int32} {y0 : Int32} (q : lx_X8_thread nc C Q 30 [.ref (240), .int (x1), .int (y0), .int (x3 + 1)] [] h) : lx_X8_thread nc C Q 43 [.ref (240), .int (x1), .int (x2), .int (x3)] [.int (y0)] h := by
  refine tf_LW_go ?_
  exact q
set_option maxRecDepth 100000 in
theorem go_X8_thread_50 {nc : Nat} {C : tf_C} {Q : tf_Q} {h : LH} (hn : 270 ≤ nc) {x1 : Int32} {x2 : Int32} {x3 : Int32} (q : Q (.int (x2)) h) : lx_X8_thread nc C Q 50 [.ref (240), .int (x1), .int (x2), .int (x3)] [] h := by
  refine tf_LW_go ?_
  exact ⟨(by first | trivial | rfl), q⟩
abbrev lx_X8_path (nc : Nat) (C : tf_C) (Q : tf_Q) : tf_X := tf_LW nc C (tf_F 6) (tf_M 6) (tf_I 6) (tf_Eh 196) 1 tb_X8_path Q
set_option maxRecDepth 100000 in
theorem go_X8_path_0 {nc : Nat} {C : tf_C} {Q : tf_Q} {h : LH} (hn : 270 ≤ nc) {x1 : Int32} {x2 : Int32} {x3 : Int32} (q : C 121 [.ref (0), .int (x1), .int (x2)] h (fun r g => lx_X8_path nc C Q 9 [.ref (240), .int (x1), .int (x2), .int (x3), tf_z] (r :: []) g)) : lx_X8_path nc C Q 0 [.ref (240), .int (x1), .int (x2), .int (x3), tf_z] [] h := by
  refine tf_LW_go ?_
  exact ⟨⟨(by first | rfl | trivial), (show 240 < nc by omega)⟩, ⟨Nat.le_of_ble_eq_true rfl, Nat.le_of_ble_eq_true rfl, q⟩⟩
theorem en_X8_path {nc d : Nat} {Q : tf_Q} {h : LH} (hn : 270 ≤ nc) {x1 : Int32} {x2 : Int32} {x3 : Int32} (q : lx_X8_path nc (tf_Cd nc d) Q 0 [.ref (240), .int (x1), .int (x2), .int (x3), tf_z] [] h) : tf_Cd nc (d + 1) 196 [.ref (240), .int (x1), .int (x2), .int (x3)] h Q := by
  exact ⟨⟨Nat.le_of_ble_eq_true rfl, Or.inr ⟨rfl, (show 240 < nc by omega)⟩⟩, q⟩
set_option maxRecDepth 100000 in
theorem go_X8_path_9 {nc : Nat} {C : tf_C} {Q : tf_Q} {h : LH} (hn : 270 ≤ nc) {x1 : Int32} {x2 : Int32} {x3 : Int32} {y0 : Int32} (q : (y0 = (0 : Int32) → Q (.int ((-1000))) h) ∧ (¬ y0 = (0 : Int32) → lx_X8_path nc C Q 16 [.ref (240), .int (x1), .int (x2), .int (x3), tf_z] [] h)) : lx_X8_path nc C Q 9 [.ref (240), .int (x1), .int (x2), .int (x3), tf_z] [.int (y0)] h := by
  refine tf_LW_go ?_
  exact ⟨fun c1 => ⟨(by first | trivial | rfl), (q.1 c1)⟩, q.2⟩
set_option maxRecDepth 100000 in
theorem go_X8_path_16 {nc : Nat} {C : tf_C} {Q : tf_Q} {h : LH} (hn : 270 ≤ nc) {x1 : Int32} {x2 : Int32} {x3 : Int32} (q : C 157 [.ref (241), .ref (0), .int (x1), .int (x2)] h (fun r g => lx_X8_path nc C Q 29 [.ref (240), .int (x1), .int (x2), .int (x3), tf_z] [] g)) : lx_X8_path nc C Q 16 [.ref (240), .int (x1), .int (x2), .int (x3), tf_z] [] h := by
  refine tf_LW_go ?_
  exact ⟨⟨(by first | rfl | trivial), (show 240 < nc by omega)⟩, ⟨⟨(by first | rfl | trivial), (show 240 < nc by omega)⟩, ⟨Nat.le_of_ble_eq_true rfl, Nat.le_of_ble_eq_true rfl, q⟩⟩⟩
set_option maxRecDepth 100000 in
theorem go_X8_path_29 {nc : Nat} {C : tf_C} {Q : tf_Q} {h : LH} (hn : 270 ≤ nc) {x1 : Int32} {x2 : Int32} {x3 : Int32} (q : (((x3 : Int32).toInt < 0 ∨ 2 < (x3 : Int32).toInt) → lx_X8_path nc C Q 104 [.ref (240), .int (x1), .int (x2), .int (x3), tf_z] [] h) ∧ ((x3 : Int32).toInt = 0 → lx_X8_path nc C Q 56 [.ref (240), .int (x1), .int (x2), .int (x3), tf_z] [] h) ∧ ((x3 : Int32).toInt = 1 → lx_X8_path nc C Q 64 [.ref (240), .int (x1), .int (x2), .int (x3), tf_z] [] h) ∧ ((x3 : Int32).toInt = 2 → lx_X8_path nc C Q 92 [.ref (240), .int (x1), .int (x2), .int (x3), tf_z] [] h) ∧ True) : lx_X8_path nc C Q 29 [.ref (240), .int (x1), .int (x2), .int (x3), tf_z] [] h := by
  refine tf_LW_go ?_
  exact q
set_option maxRecDepth 100000 in
theorem go_X8_path_56 {nc : Nat} {C : tf_C} {Q : tf_Q} {h : LH} (hn : 270 ≤ nc) {x1 : Int32} {x2 : Int32} {x3 : Int32} (q : Q (.int (h.1 241 2)) h) : lx_X8_path nc C Q 56 [.ref (240), .int (x1), .int (x2), .int (x3), tf_z] [] h := by
  refine tf_LW_go ?_
  exact ⟨⟨(by first | rfl | trivial), (show 240 < nc by omega)⟩, ⟨⟨(by first | rfl | trivial), (show 241 < nc by omega)⟩, ⟨(by first | trivial | rfl), q⟩⟩⟩
set_option maxRecDepth 100000 in
theorem go_X8_path_64 {nc : Nat} {C : tf_C} {Q : tf_Q} {h : LH} (hn : 270 ≤ nc) {x1 : Int32} {x2 : Int32} {x3 : Int32} (q : C 162 [.ref (241), .ref (0)] h (fun r g => lx_X8_path nc C Q 75 [.ref (240), .int (x1), .int (x2), .int (x3), tf_z] (r :: []) g)) : lx_X8_path nc C Q 64 [.ref (240), .int (x1), .int (x2), .int (x3), tf_z] [] h := by
  refine tf_LW_go ?_
  exact ⟨⟨(by first | rfl | trivial), (show 240 < nc by omega)⟩, ⟨⟨(by first | rfl | trivial), (show 240 < nc by omega)⟩, ⟨Nat.le_of_ble_eq_true rfl, Nat.le_of_ble_eq_true rfl, q⟩⟩⟩
set_option maxRecDepth 100000 in
theorem go_X8_path_75 {nc : Nat} {C : tf_C} {Q : tf_Q} {h : LH} (hn : 270 ≤ nc) {x1 : Int32} {x2 : Int32} {x3 : Int32} {y0 : Int32} (q : (y0 < (1000000 : Int32) → lx_X8_path nc C Q 89 [.ref (240), .int (x1), .int (x2), .int (x3), .int (y0)] [] h) ∧ (¬ y0 < (1000000 : Int32) → lx_X8_path nc C Q 91 [.ref (240), .int (x1), .int (x2), .int (x3), .int (y0)] [.int ((-1))] h)) : lx_X8_path nc C Q 75 [.ref (240), .int (x1), .int (x2), .int (x3), tf_z] [.int (y0)] h := by
  refine tf_LW_go ?_
  exact ⟨q.1, fun c1 => (q.2 c1)⟩
set_option maxRecDepth 100000 in
theorem go_X8_path_89 {nc : Nat} {C : tf_C} {Q : tf_Q} {h : LH} (hn : 270 ≤ nc) {x1 : Int32} {x2 : Int32} {x3 : Int32} {x4 : Int32} (q : lx_X8_path nc C Q 91 [.ref (240), .int (x1), .int (x2), .int (x3), .int (x4)] [.int (x4)] h) : lx_X8_path nc C Q 89 [.ref (240), .int (x1), .int (x2), .int (x3), .int (x4)] [] h := by
  refine tf_LW_go ?_
  exact q
set_option maxRecDepth 100000 in
theorem go_X8_path_91 {nc : Nat} {C : tf_C} {Q : tf_Q} {h : LH} (hn : 270 ≤ nc) {x1 : Int32} {x2 : Int32} {x3 : Int32} {x4 : Int32} {y0 : Int32} (q : Q (.int (y0)) h) : lx_X8_path nc C Q 91 [.ref (240), .int (x1), .int (x2), .int (x3), .int (x4)] [.int (y0)] h := by
  refine tf_LW_go ?_
  exact ⟨(by first | trivial | rfl), q⟩
set_option maxRecDepth 100000 in
theorem go_X8_path_92 {nc : Nat} {C : tf_C} {Q : tf_Q} {h : LH} (hn : 270 ≤ nc) {x1 : Int32} {x2 : Int32} {x3 : Int32} (q : C 163 [.ref (241), .ref (0)] h (fun r g => lx_X8_path nc C Q 103 [.ref (240), .int (x1), .int (x2), .int (x3), tf_z] (r :: []) g)) : lx_X8_path nc C Q 92 [.ref (240), .int (x1), .int (x2), .int (x3), tf_z] [] h := by
  refine tf_LW_go ?_
  exact ⟨⟨(by first | rfl | trivial), (show 240 < nc by omega)⟩, ⟨⟨(by first | rfl | trivial), (show 240 < nc by omega)⟩, ⟨Nat.le_of_ble_eq_true rfl, Nat.le_of_ble_eq_true rfl, q⟩⟩⟩
set_option maxRecDepth 100000 in
theorem go_X8_path_103 {nc : Nat} {C : tf_C} {Q : tf_Q} {h : LH} (hn : 270 ≤ nc) {x1 : Int32} {x2 : Int32} {x3 : Int32} {y0 : Int32} (q : Q (.int (y0)) h) : lx_X8_path nc C Q 103 [.ref (240), .int (x1), .int (x2), .int (x3), tf_z] [.int (y0)] h := by
  refine tf_LW_go ?_
  exact ⟨(by first | trivial | rfl), q⟩
set_option maxRecDepth 100000 in
theorem go_X8_path_104 {nc : Nat} {C : tf_C} {Q : tf_Q} {h : LH} (hn : 270 ≤ nc) {x1 : Int32} {x2 : Int32} {x3 : Int32} (q : C 164 [.ref (241), .int (x3), .int ((-1000))] h (fun r g => lx_X8_path nc C Q 115 [.ref (240), .int (x1), .int (x2), .int (x3), tf_z] (r :: []) g)) : lx_X8_path nc C Q 104 [.ref (240), .int (x1), .int (x2), .int (x3), tf_z] [] h := by
  refine tf_LW_go ?_
  exact ⟨⟨(by first | rfl | trivial), (show 240 < nc by omega)⟩, ⟨Nat.le_of_ble_eq_true rfl, Nat.le_of_ble_eq_true rfl, q⟩⟩
set_option maxRecDepth 100000 in
theorem go_X8_path_115 {nc : Nat} {C : tf_C} {Q : tf_Q} {h : LH} (hn : 270 ≤ nc) {x1 : Int32} {x2 : Int32} {x3 : Int32} {y0 : Int32} (q : Q (.int (y0)) h) : lx_X8_path nc C Q 115 [.ref (240), .int (x1), .int (x2), .int (x3), tf_z] [.int (y0)] h := by
  refine tf_LW_go ?_
  exact ⟨(by first | trivial | rfl), q⟩
abbrev lx_X8_next (nc : Nat) (C : tf_C) (Q : tf_Q) : tf_X := tf_LW nc C (tf_F 6) (tf_M 6) (tf_I 6) (tf_Eh 197) 1 tb_X8_next Q
set_option maxRecDepth 100000 in
theorem go_X8_next_0 {nc : Nat} {C : tf_C} {Q : tf_Q} {h : LH} (hn : 270 ≤ nc) {x1 : Int32} (q : C 135 [.ref (0), .int (h.1 0 2)] h (fun r g => lx_X8_next nc C Q 14 [.ref (240), .int (x1), tf_z] (r :: []) g)) : lx_X8_next nc C Q 0 [.ref (240), .int (x1), tf_z] [] h := by
  refine tf_LW_go ?_
  exact ⟨⟨(by first | rfl | trivial), (show 240 < nc by omega)⟩, ⟨⟨(by first | rfl | trivial), (show 240 < nc by omega)⟩, ⟨⟨(by first | rfl | trivial), (show 0 < nc by omega)⟩, ⟨Nat.le_of_ble_eq_true rfl, Nat.le_of_ble_eq_true rfl, q⟩⟩⟩⟩
theorem en_X8_next {nc d : Nat} {Q : tf_Q} {h : LH} (hn : 270 ≤ nc) {x1 : Int32} (q : lx_X8_next nc (tf_Cd nc d) Q 0 [.ref (240), .int (x1), tf_z] [] h) : tf_Cd nc (d + 1) 197 [.ref (240), .int (x1)] h Q := by
  exact ⟨⟨Nat.le_of_ble_eq_true rfl, Or.inr ⟨rfl, (show 240 < nc by omega)⟩⟩, q⟩
set_option maxRecDepth 100000 in
theorem go_X8_next_14 {nc : Nat} {C : tf_C} {Q : tf_Q} {h : LH} (hn : 270 ≤ nc) {x1 : Int32} {y0 : Int32} (q : (y0 = ((-1) : Int32) → Q (.int ((-1))) h) ∧ (¬ y0 = ((-1) : Int32) → lx_X8_next nc C Q 22 [.ref (240), .int (x1), .int (y0)] [] h)) : lx_X8_next nc C Q 14 [.ref (240), .int (x1), tf_z] [.int (y0)] h := by
  refine tf_LW_go ?_
  exact ⟨fun c1 => ⟨(by first | trivial | rfl), (q.1 c1)⟩, q.2⟩
set_option maxRecDepth 100000 in
theorem go_X8_next_22 {nc : Nat} {C : tf_C} {Q : tf_Q} {h : LH} (hn : 270 ≤ nc) {x1 : Int32} {x2 : Int32} (q : C 158 [.ref (241), .ref (0), .int (x2)] h (fun r g => lx_X8_next nc C Q 34 [.ref (240), .int (x1), .int (x2)] [] g)) : lx_X8_next nc C Q 22 [.ref (240), .int (x1), .int (x2)] [] h := by
  refine tf_LW_go ?_
  exact ⟨⟨(by first | rfl | trivial), (show 240 < nc by omega)⟩, ⟨⟨(by first | rfl | trivial), (show 240 < nc by omega)⟩, ⟨Nat.le_of_ble_eq_true rfl, Nat.le_of_ble_eq_true rfl, q⟩⟩⟩
set_option maxRecDepth 100000 in
theorem go_X8_next_34 {nc : Nat} {C : tf_C} {Q : tf_Q} {h : LH} (hn : 270 ≤ nc) {x1 : Int32} {x2 : Int32} (q : (((x1 : Int32).toInt < 0 ∨ 4 < (x1 : Int32).toInt) → lx_X8_next nc C Q 112 [.ref (240), .int (x1), .int (x2)] [] h) ∧ ((x1 : Int32).toInt = 0 → lx_X8_next nc C Q 68 [.ref (240), .int (x1), .int (x2)] [] h) ∧ ((x1 : Int32).toInt = 1 → lx_X8_next nc C Q 70 [.ref (240), .int (x1), .int (x2)] [] h) ∧ ((x1 : Int32).toInt = 2 → lx_X8_next nc C Q 81 [.ref (240), .int (x1), .int (x2)] [] h) ∧ ((x1 : Int32).toInt = 3 → lx_X8_next nc C Q 89 [.ref (240), .int (x1), .int (x2)] [] h) ∧ ((x1 : Int32).toInt = 4 → lx_X8_next nc C Q 104 [.ref (240), .int (x1), .int (x2)] [] h) ∧ True) : lx_X8_next nc C Q 34 [.ref (240), .int (x1), .int (x2)] [] h := by
  refine tf_LW_go ?_
  exact q
set_option maxRecDepth 100000 in
theorem go_X8_next_68 {nc : Nat} {C : tf_C} {Q : tf_Q} {h : LH} (hn : 270 ≤ nc) {x1 : Int32} {x2 : Int32} (q : Q (.int (x2)) h) : lx_X8_next nc C Q 68 [.ref (240), .int (x1), .int (x2)] [] h := by
  refine tf_LW_go ?_
  exact ⟨(by first | trivial | rfl), q⟩
set_option maxRecDepth 100000 in
theorem go_X8_next_70 {nc : Nat} {C : tf_C} {Q : tf_Q} {h : LH} (hn : 270 ≤ nc) {x1 : Int32} {x2 : Int32} (q : C 161 [.ref (241)] h (fun r g => lx_X8_next nc C Q 77 [.ref (240), .int (x1), .int (x2)] (r :: []) g)) : lx_X8_next nc C Q 70 [.ref (240), .int (x1), .int (x2)] [] h := by
  refine tf_LW_go ?_
  exact ⟨⟨(by first | rfl | trivial), (show 240 < nc by omega)⟩, ⟨Nat.le_of_ble_eq_true rfl, Nat.le_of_ble_eq_true rfl, q⟩⟩
set_option maxRecDepth 100000 in
theorem go_X8_next_77 {nc : Nat} {C : tf_C} {Q : tf_Q} {h : LH} (hn : 270 ≤ nc) {x1 : Int32} {x2 : Int32} {y0 : Int32} (q : C 220 [.int (y0)] h (fun r g => lx_X8_next nc C Q 80 [.ref (240), .int (x1), .int (x2)] (r :: []) g)) : lx_X8_next nc C Q 77 [.ref (240), .int (x1), .int (x2)] [.int (y0)] h := by
  refine tf_LW_go ?_
  exact ⟨Nat.le_of_ble_eq_true rfl, Nat.le_of_ble_eq_true rfl, q⟩
set_option maxRecDepth 100000 in
theorem go_X8_next_80 {nc : Nat} {C : tf_C} {Q : tf_Q} {h : LH} (hn : 270 ≤ nc) {x1 : Int32} {x2 : Int32} {y0 : Int32} (q : Q (.int (y0)) h) : lx_X8_next nc C Q 80 [.ref (240), .int (x1), .int (x2)] [.int (y0)] h := by
  refine tf_LW_go ?_
  exact ⟨(by first | trivial | rfl), q⟩
set_option maxRecDepth 100000 in
theorem go_X8_next_81 {nc : Nat} {C : tf_C} {Q : tf_Q} {h : LH} (hn : 270 ≤ nc) {x1 : Int32} {x2 : Int32} (q : Q (.int (h.1 241 4)) h) : lx_X8_next nc C Q 81 [.ref (240), .int (x1), .int (x2)] [] h := by
  refine tf_LW_go ?_
  exact ⟨⟨(by first | rfl | trivial), (show 240 < nc by omega)⟩, ⟨⟨(by first | rfl | trivial), (show 241 < nc by omega)⟩, ⟨(by first | trivial | rfl), q⟩⟩⟩
set_option maxRecDepth 100000 in
theorem go_X8_next_89 {nc : Nat} {C : tf_C} {Q : tf_Q} {h : LH} (hn : 270 ≤ nc) {x1 : Int32} {x2 : Int32} (q : C 122 [.ref (0), .int (h.1 241 3)] h (fun r g => lx_X8_next nc C Q 103 [.ref (240), .int (x1), .int (x2)] (r :: []) g)) : lx_X8_next nc C Q 89 [.ref (240), .int (x1), .int (x2)] [] h := by
  refine tf_LW_go ?_
  exact ⟨⟨(by first | rfl | trivial), (show 240 < nc by omega)⟩, ⟨⟨(by first | rfl | trivial), (show 240 < nc by omega)⟩, ⟨⟨(by first | rfl | trivial), (show 241 < nc by omega)⟩, ⟨Nat.le_of_ble_eq_true rfl, Nat.le_of_ble_eq_true rfl, q⟩⟩⟩⟩
set_option maxRecDepth 100000 in
theorem go_X8_next_103 {nc : Nat} {C : tf_C} {Q : tf_Q} {h : LH} (hn : 270 ≤ nc) {x1 : Int32} {x2 : Int32} {y0 : Int32} (q : Q (.int (y0)) h) : lx_X8_next nc C Q 103 [.ref (240), .int (x1), .int (x2)] [.int (y0)] h := by
  refine tf_LW_go ?_
  exact ⟨(by first | trivial | rfl), q⟩
set_option maxRecDepth 100000 in
theorem go_X8_next_104 {nc : Nat} {C : tf_C} {Q : tf_Q} {h : LH} (hn : 270 ≤ nc) {x1 : Int32} {x2 : Int32} (q : Q (.int (h.1 241 2)) h) : lx_X8_next nc C Q 104 [.ref (240), .int (x1), .int (x2)] [] h := by
  refine tf_LW_go ?_
  exact ⟨⟨(by first | rfl | trivial), (show 240 < nc by omega)⟩, ⟨⟨(by first | rfl | trivial), (show 241 < nc by omega)⟩, ⟨(by first | trivial | rfl), q⟩⟩⟩
set_option maxRecDepth 100000 in
theorem go_X8_next_112 {nc : Nat} {C : tf_C} {Q : tf_Q} {h : LH} (hn : 270 ≤ nc) {x1 : Int32} {x2 : Int32} (q : C 164 [.ref (241), .int (x1), .int ((-1))] h (fun r g => lx_X8_next nc C Q 121 [.ref (240), .int (x1), .int (x2)] (r :: []) g)) : lx_X8_next nc C Q 112 [.ref (240), .int (x1), .int (x2)] [] h := by
  refine tf_LW_go ?_
  exact ⟨⟨(by first | rfl | trivial), (show 240 < nc by omega)⟩, ⟨Nat.le_of_ble_eq_true rfl, Nat.le_of_ble_eq_true rfl, q⟩⟩
set_option maxRecDepth 100000 in
theorem go_X8_next_121 {nc : Nat} {C : tf_C} {Q : tf_Q} {h : LH} (hn : 270 ≤ nc) {x1 : Int32} {x2 : Int32} {y0 : Int32} (q : Q (.int (y0)) h) : lx_X8_next nc C Q 121 [.ref (240), .int (x1), .int (x2)] [.int (y0)] h := by
  refine tf_LW_go ?_
  exact ⟨(by first | trivial | rfl), q⟩
abbrev lx_X8_past (nc : Nat) (C : tf_C) (Q : tf_Q) : tf_X := tf_LW nc C (tf_F 6) (tf_M 6) (tf_I 6) (tf_Eh 198) 1 tb_X8_past Q
set_option maxRecDepth 100000 in
theorem go_X8_past_0 {nc : Nat} {C : tf_C} {Q : tf_Q} {h : LH} (hn : 270 ≤ nc) {x1 : Int32} {x2 : Int32} (q : C 173 [.ref (11), .int (x1), .int (x2)] h (fun r g => lx_X8_past nc C Q 12 [.ref (240), .int (x1), .int (x2)] (r :: []) g)) : lx_X8_past nc C Q 0 [.ref (240), .int (x1), .int (x2)] [] h := by
  refine tf_LW_go ?_
  exact ⟨⟨(by first | rfl | trivial), (show 240 < nc by omega)⟩, ⟨⟨(by first | rfl | trivial), (show 0 < nc by omega)⟩, ⟨Nat.le_of_ble_eq_true rfl, Nat.le_of_ble_eq_true rfl, q⟩⟩⟩
theorem en_X8_past {nc d : Nat} {Q : tf_Q} {h : LH} (hn : 270 ≤ nc) {x1 : Int32} {x2 : Int32} (q : lx_X8_past nc (tf_Cd nc d) Q 0 [.ref (240), .int (x1), .int (x2)] [] h) : tf_Cd nc (d + 1) 198 [.ref (240), .int (x1), .int (x2)] h Q := by
  exact ⟨⟨Nat.le_of_ble_eq_true rfl, Or.inr ⟨rfl, (show 240 < nc by omega)⟩⟩, q⟩
set_option maxRecDepth 100000 in
theorem go_X8_past_12 {nc : Nat} {C : tf_C} {Q : tf_Q} {h : LH} (hn : 270 ≤ nc) {x1 : Int32} {x2 : Int32} {y0 : Int32} (q : Q (.int (y0)) h) : lx_X8_past nc C Q 12 [.ref (240), .int (x1), .int (x2)] [.int (y0)] h := by
  refine tf_LW_go ?_
  exact ⟨(by first | trivial | rfl), q⟩
abbrev lx_X8_bill (nc : Nat) (C : tf_C) (Q : tf_Q) : tf_X := tf_LW nc C (tf_F 6) (tf_M 6) (tf_I 6) (tf_Eh 199) 1 tb_X8_bill Q
set_option maxRecDepth 100000 in
theorem go_X8_bill_0 {nc : Nat} {C : tf_C} {Q : tf_Q} {h : LH} (hn : 270 ≤ nc) {x1 : Int32} (q : C 145 [.ref (0)] h (fun r g => lx_X8_bill nc C Q 7 [.ref (240), .int (x1), tf_z, tf_z] (r :: []) g)) : lx_X8_bill nc C Q 0 [.ref (240), .int (x1), tf_z, tf_z] [] h := by
  refine tf_LW_go ?_
  exact ⟨⟨(by first | rfl | trivial), (show 240 < nc by omega)⟩, ⟨Nat.le_of_ble_eq_true rfl, Nat.le_of_ble_eq_true rfl, q⟩⟩
theorem en_X8_bill {nc d : Nat} {Q : tf_Q} {h : LH} (hn : 270 ≤ nc) {x1 : Int32} (q : lx_X8_bill nc (tf_Cd nc d) Q 0 [.ref (240), .int (x1), tf_z, tf_z] [] h) : tf_Cd nc (d + 1) 199 [.ref (240), .int (x1)] h Q := by
  exact ⟨⟨Nat.le_of_ble_eq_true rfl, Or.inr ⟨rfl, (show 240 < nc by omega)⟩⟩, q⟩
set_option maxRecDepth 100000 in
theorem go_X8_bill_7 {nc : Nat} {C : tf_C} {Q : tf_Q} {h : LH} (hn : 270 ≤ nc) {x1 : Int32} {y0 : Int32} (q : ((lg_cmp (((y0 : Int32).toInt64) * ((x1 : Int32).toInt64)) (-2147483648)) < (0 : Int32) → lx_X8_bill nc C Q 28 [.ref (240), .int (x1), .long (((y0 : Int32).toInt64) * ((x1 : Int32).toInt64)), tf_z] [] h) ∧ (¬ (lg_cmp (((y0 : Int32).toInt64) * ((x1 : Int32).toInt64)) (-2147483648)) < (0 : Int32) → ((lg_cmp (((y0 : Int32).toInt64) * ((x1 : Int32).toInt64)) 2147483647) ≤ (0 : Int32) → lx_X8_bill nc C Q 32 [.ref (240), .int (x1), .long (((y0 : Int32).toInt64) * ((x1 : Int32).toInt64)), tf_z] [] h) ∧ (¬ (lg_cmp (((y0 : Int32).toInt64) * ((x1 : Int32).toInt64)) 2147483647) ≤ (0 : Int32) → lx_X8_bill nc C Q 28 [.ref (240), .int (x1), .long (((y0 : Int32).toInt64) * ((x1 : Int32).toInt64)), tf_z] [] h))) : lx_X8_bill nc C Q 7 [.ref (240), .int (x1), tf_z, tf_z] [.int (y0)] h := by
  refine tf_LW_go ?_
  exact ⟨q.1, fun c2 => ⟨(q.2 c2).1, fun c1 => ((q.2 c2).2 c1)⟩⟩
set_option maxRecDepth 100000 in
theorem go_X8_bill_28 {nc : Nat} {C : tf_C} {Q : tf_Q} {h : LH} (hn : 270 ≤ nc) {x1 : Int32} {x2 : Int64} (q : Q (.int ((-2147483648))) h) : lx_X8_bill nc C Q 28 [.ref (240), .int (x1), .long (x2), tf_z] [] h := by
  refine tf_LW_go ?_
  exact ⟨(by first | trivial | rfl), q⟩
set_option maxRecDepth 100000 in
theorem go_X8_bill_32 {nc : Nat} {C : tf_C} {Q : tf_Q} {h : LH} (hn : 270 ≤ nc) {x1 : Int32} {x2 : Int64} (q : Q (.int ((x2 : Int64).toInt32)) h) : lx_X8_bill nc C Q 32 [.ref (240), .int (x1), .long (x2), tf_z] [] h := by
  refine tf_LW_go ?_
  exact ⟨(by first | trivial | rfl), q⟩
abbrev lx_X8_ledger (nc : Nat) (C : tf_C) (Q : tf_Q) : tf_X := tf_LW nc C (tf_F 6) (tf_M 6) (tf_I 6) (tf_Eh 200) 1 tb_X8_ledger Q
set_option maxRecDepth 100000 in
theorem go_X8_ledger_0 {nc : Nat} {C : tf_C} {Q : tf_Q} {h : LH} (hn : 270 ≤ nc) {x1 : Int32} {x2 : Int32} (q : (((-1) : Int32) ≤ x1 → lx_X8_ledger nc C Q 9 [.ref (240), .int (x1), .int (x2), tf_z, tf_z] [] h) ∧ (¬ ((-1) : Int32) ≤ x1 → Q (.int ((-1000))) h)) : lx_X8_ledger nc C Q 0 [.ref (240), .int (x1), .int (x2), tf_z, tf_z] [] h := by
  refine tf_LW_go ?_
  exact ⟨q.1, fun c1 => ⟨(by first | trivial | rfl), (q.2 c1)⟩⟩
theorem en_X8_ledger {nc d : Nat} {Q : tf_Q} {h : LH} (hn : 270 ≤ nc) {x1 : Int32} {x2 : Int32} (q : lx_X8_ledger nc (tf_Cd nc d) Q 0 [.ref (240), .int (x1), .int (x2), tf_z, tf_z] [] h) : tf_Cd nc (d + 1) 200 [.ref (240), .int (x1), .int (x2)] h Q := by
  exact ⟨⟨Nat.le_of_ble_eq_true rfl, Or.inr ⟨rfl, (show 240 < nc by omega)⟩⟩, q⟩
set_option maxRecDepth 100000 in
theorem go_X8_ledger_9 {nc : Nat} {C : tf_C} {Q : tf_Q} {h : LH} (hn : 270 ≤ nc) {x1 : Int32} {x2 : Int32} (q : C 146 [.ref (0), .int ((-100))] h (fun r g => lx_X8_ledger nc C Q 20 [.ref (240), .int (x1), .int (x2), .int (0), tf_z] (r :: []) g)) : lx_X8_ledger nc C Q 9 [.ref (240), .int (x1), .int (x2), tf_z, tf_z] [] h := by
  refine tf_LW_go ?_
  exact ⟨⟨(by first | rfl | trivial), (show 240 < nc by omega)⟩, ⟨Nat.le_of_ble_eq_true rfl, Nat.le_of_ble_eq_true rfl, q⟩⟩
set_option maxRecDepth 100000 in
theorem go_X8_ledger_20 {nc : Nat} {C : tf_C} {Q : tf_Q} {h : LH} (hn : 270 ≤ nc) {x1 : Int32} {x2 : Int32} {x3 : Int32} {y0 : Int32} (q : lx_X8_ledger nc C Q 22 [.ref (240), .int (x1), .int (x2), .int (x3), .int (y0)] [] h) : lx_X8_ledger nc C Q 20 [.ref (240), .int (x1), .int (x2), .int (x3), tf_z] [.int (y0)] h := by
  refine tf_LW_go ?_
  exact q
set_option maxRecDepth 100000 in
theorem go_X8_ledger_22 {nc : Nat} {C : tf_C} {Q : tf_Q} {h : LH} (hn : 270 ≤ nc) {x1 : Int32} {x2 : Int32} {x3 : Int32} {x4 : Int32} (q : ((14 : Int32) ≤ x3 → lx_X8_ledger nc C Q 76 [.ref (240), .int (x1), .int (x2), .int (x3), .int (x4)] [] h) ∧ (¬ (14 : Int32) ≤ x3 → ((99 : Int32) < x4 → lx_X8_ledger nc C Q 76 [.ref (240), .int (x1), .int (x2), .int (x3), .int (x4)] [] h) ∧ (¬ (99 : Int32) < x4 → (x3 = x1 → (x2 = (0 : Int32) → lx_X8_ledger nc C Q 56 [.ref (240), .int (x1), .int (x2), .int (x3), .int (x4)] [] h) ∧ (¬ x2 = (0 : Int32) → C 147 [.ref (0), .int (x4)] h (fun r g => lx_X8_ledger nc C Q 53 [.ref (240), .int (x1), .int (x2), .int (x3), .int (x4)] (r :: []) g))) ∧ (¬ x3 = x1 → lx_X8_ledger nc C Q 59 [.ref (240), .int (x1), .int (x2), .int (x3), .int (x4)] [] h)))) : lx_X8_ledger nc C Q 22 [.ref (240), .int (x1), .int (x2), .int (x3), .int (x4)] [] h := by
  refine tf_LW_go ?_
  exact ⟨q.1, fun c4 => ⟨(q.2 c4).1, fun c3 => ⟨fun c2 => ⟨(((q.2 c4).2 c3).1 c2).1, fun c1 => ⟨⟨(by first | rfl | trivial), (show 240 < nc by omega)⟩, ⟨Nat.le_of_ble_eq_true rfl, Nat.le_of_ble_eq_true rfl, ((((q.2 c4).2 c3).1 c2).2 c1)⟩⟩⟩, ((q.2 c4).2 c3).2⟩⟩⟩
set_option maxRecDepth 100000 in
theorem go_X8_ledger_53 {nc : Nat} {C : tf_C} {Q : tf_Q} {h : LH} (hn : 270 ≤ nc) {x1 : Int32} {x2 : Int32} {x3 : Int32} {x4 : Int32} {y0 : Int32} (q : lx_X8_ledger nc C Q 58 [.ref (240), .int (x1), .int (x2), .int (x3), .int (x4)] [.int (y0)] h) : lx_X8_ledger nc C Q 53 [.ref (240), .int (x1), .int (x2), .int (x3), .int (x4)] [.int (y0)] h := by
  refine tf_LW_go ?_
  exact q
set_option maxRecDepth 100000 in
theorem go_X8_ledger_56 {nc : Nat} {C : tf_C} {Q : tf_Q} {h : LH} (hn : 270 ≤ nc) {x1 : Int32} {x2 : Int32} {x3 : Int32} {x4 : Int32} (q : lx_X8_ledger nc C Q 58 [.ref (240), .int (x1), .int (x2), .int (x3), .int (x4)] [.int (x4)] h) : lx_X8_ledger nc C Q 56 [.ref (240), .int (x1), .int (x2), .int (x3), .int (x4)] [] h := by
  refine tf_LW_go ?_
  exact q
set_option maxRecDepth 100000 in
theorem go_X8_ledger_58 {nc : Nat} {C : tf_C} {Q : tf_Q} {h : LH} (hn : 270 ≤ nc) {x1 : Int32} {x2 : Int32} {x3 : Int32} {x4 : Int32} {y0 : Int32} (q : Q (.int (y0)) h) : lx_X8_ledger nc C Q 58 [.ref (240), .int (x1), .int (x2), .int (x3), .int (x4)] [.int (y0)] h := by
  refine tf_LW_go ?_
  exact ⟨(by first | trivial | rfl), q⟩
set_option maxRecDepth 100000 in
theorem go_X8_ledger_59 {nc : Nat} {C : tf_C} {Q : tf_Q} {h : LH} (hn : 270 ≤ nc) {x1 : Int32} {x2 : Int32} {x3 : Int32} {x4 : Int32} (q : C 146 [.ref (0), .int (x4)] h (fun r g => lx_X8_ledger nc C Q 71 [.ref (240), .int (x1), .int (x2), .int (x3 + 1), .int (x4)] (r :: []) g)) : lx_X8_ledger nc C Q 59 [.ref (240), .int (x1), .int (x2), .int (x3), .int (x4)] [] h := by
  refine tf_LW_go ?_
  exact ⟨⟨(by first | rfl | trivial), (show 240 < nc by omega)⟩, ⟨Nat.le_of_ble_eq_true rfl, Nat.le_of_ble_eq_true rfl, q⟩⟩
set_option maxRecDepth 100000 in
theorem go_X8_ledger_71 {nc : Nat} {C : tf_C} {Q : tf_Q} {h : LH} (hn : 270 ≤ nc) {x1 : Int32} {x2 : Int32} {x3 : Int32} {x4 : Int32} {y0 : Int32} (q : lx_X8_ledger nc C Q 22 [.ref (240), .int (x1), .int (x2), .int (x3), .int (y0)] [] h) : lx_X8_ledger nc C Q 71 [.ref (240), .int (x1), .int (x2), .int (x3), .int (x4)] [.int (y0)] h := by
  refine tf_LW_go ?_
  exact q
set_option maxRecDepth 100000 in
theorem go_X8_ledger_76 {nc : Nat} {C : tf_C} {Q : tf_Q} {h : LH} (hn : 270 ≤ nc) {x1 : Int32} {x2 : Int32} {x3 : Int32} {x4 : Int32} (q : (x1 = ((-1) : Int32) → lx_X8_ledger nc C Q 88 [.ref (240), .int (x1), .int (x2), .int (x3), .int (x4)] [.int (x3)] h) ∧ (¬ x1 = ((-1) : Int32) → lx_X8_ledger nc C Q 85 [.ref (240), .int (x1), .int (x2), .int (x3), .int (x4)] [] h)) : lx_X8_ledger nc C Q 76 [.ref (240), .int (x1), .int (x2), .int (x3), .int (x4)] [] h := by
  refine tf_LW_go ?_
  exact ⟨fun c1 => (q.1 c1), q.2⟩
set_option maxRecDepth 100000 in
theorem go_X8_ledger_85 {nc : Nat} {C : tf_C} {Q : tf_Q} {h : LH} (hn : 270 ≤ nc) {x1 : Int32} {x2 : Int32} {x3 : Int32} {x4 : Int32} (q : lx_X8_ledger nc C Q 88 [.ref (240), .int (x1), .int (x2), .int (x3), .int (x4)] [.int ((-1000))] h) : lx_X8_ledger nc C Q 85 [.ref (240), .int (x1), .int (x2), .int (x3), .int (x4)] [] h := by
  refine tf_LW_go ?_
  exact q
set_option maxRecDepth 100000 in
theorem go_X8_ledger_88 {nc : Nat} {C : tf_C} {Q : tf_Q} {h : LH} (hn : 270 ≤ nc) {x1 : Int32} {x2 : Int32} {x3 : Int32} {x4 : Int32} {y0 : Int32} (q : Q (.int (y0)) h) : lx_X8_ledger nc C Q 88 [.ref (240), .int (x1), .int (x2), .int (x3), .int (x4)] [.int (y0)] h := by
  refine tf_LW_go ?_
  exact ⟨(by first | trivial | rfl), q⟩
abbrev lx_X8_wide (nc : Nat) (C : tf_C) (Q : tf_Q) : tf_X := tf_LW nc C (tf_F 6) (tf_M 6) (tf_I 6) (tf_Eh 201) 1 tb_X8_wide Q
set_option maxRecDepth 100000 in
theorem go_X8_wide_0 {nc : Nat} {C : tf_C} {Q : tf_Q} {h : LH} (hn : 270 ≤ nc) {x1 : Int32} {x2 : Int32} (q : C 121 [.ref (0), .int (x1), .int (x2)] h (fun r g => lx_X8_wide nc C Q 9 [.ref (240), .int (x1), .int (x2), tf_z] (r :: []) g)) : lx_X8_wide nc C Q 0 [.ref (240), .int (x1), .int (x2), tf_z] [] h := by
  refine tf_LW_go ?_
  exact ⟨⟨(by first | rfl | trivial), (show 240 < nc by omega)⟩, ⟨Nat.le_of_ble_eq_true rfl, Nat.le_of_ble_eq_true rfl, q⟩⟩
theorem en_X8_wide {nc d : Nat} {Q : tf_Q} {h : LH} (hn : 270 ≤ nc) {x1 : Int32} {x2 : Int32} (q : lx_X8_wide nc (tf_Cd nc d) Q 0 [.ref (240), .int (x1), .int (x2), tf_z] [] h) : tf_Cd nc (d + 1) 201 [.ref (240), .int (x1), .int (x2)] h Q := by
  exact ⟨⟨Nat.le_of_ble_eq_true rfl, Or.inr ⟨rfl, (show 240 < nc by omega)⟩⟩, q⟩
set_option maxRecDepth 100000 in
theorem go_X8_wide_9 {nc : Nat} {C : tf_C} {Q : tf_Q} {h : LH} (hn : 270 ≤ nc) {x1 : Int32} {x2 : Int32} {y0 : Int32} (q : (y0 = (0 : Int32) → Q (.int ((-1))) h) ∧ (¬ y0 = (0 : Int32) → lx_X8_wide nc C Q 14 [.ref (240), .int (x1), .int (x2), tf_z] [] h)) : lx_X8_wide nc C Q 9 [.ref (240), .int (x1), .int (x2), tf_z] [.int (y0)] h := by
  refine tf_LW_go ?_
  exact ⟨fun c1 => ⟨(by first | trivial | rfl), (q.1 c1)⟩, q.2⟩
set_option maxRecDepth 100000 in
theorem go_X8_wide_14 {nc : Nat} {C : tf_C} {Q : tf_Q} {h : LH} (hn : 270 ≤ nc) {x1 : Int32} {x2 : Int32} (q : lx_X8_wide nc C Q 16 [.ref (240), .int (x1), .int (x2), .int (0)] [] h) : lx_X8_wide nc C Q 14 [.ref (240), .int (x1), .int (x2), tf_z] [] h := by
  refine tf_LW_go ?_
  exact q
set_option maxRecDepth 100000 in
theorem go_X8_wide_16 {nc : Nat} {C : tf_C} {Q : tf_Q} {h : LH} (hn : 270 ≤ nc) {x1 : Int32} {x2 : Int32} {x3 : Int32} (q : ((h.1 0 0) ≤ x3 → lx_X8_wide nc C Q 40 [.ref (240), .int (x1), .int (x2), .int (x3)] [] h) ∧ (¬ (h.1 0 0) ≤ x3 → (vp_in x3 7) ∧ lx_X8_wide nc C Q 16 [.ref (240), .int (x1), .int (x2), .int (x3 + 1)] [] (tf_up h.1 265 (x3 : Int32).toNatClampNeg 0, h.2))) : lx_X8_wide nc C Q 16 [.ref (240), .int (x1), .int (x2), .int (x3)] [] h := by
  refine tf_LW_go ?_
  exact ⟨⟨(by first | rfl | trivial), (show 240 < nc by omega)⟩, ⟨⟨(by first | rfl | trivial), (show 0 < nc by omega)⟩, ⟨q.1, fun c1 => ⟨⟨(by first | rfl | trivial), (show 240 < nc by omega)⟩, ⟨⟨(by first | rfl | trivial), (show 265 < nc by omega), (q.2 c1).1⟩, (q.2 c1).2⟩⟩⟩⟩⟩
set_option maxRecDepth 100000 in
theorem go_X8_wide_40 {nc : Nat} {C : tf_C} {Q : tf_Q} {h : LH} (hn : 270 ≤ nc) {x1 : Int32} {x2 : Int32} {x3 : Int32} (q : (vp_in x1 7) ∧ lx_X8_wide nc C Q 51 [.ref (240), .int (x1), .int (x2), .int (1)] [] (tf_up h.1 265 (x1 : Int32).toNatClampNeg 1000000, h.2)) : lx_X8_wide nc C Q 40 [.ref (240), .int (x1), .int (x2), .int (x3)] [] h := by
  refine tf_LW_go ?_
  exact ⟨⟨(by first | rfl | trivial), (show 240 < nc by omega)⟩, ⟨⟨(by first | rfl | trivial), (show 265 < nc by omega), q.1⟩, q.2⟩⟩
set_option maxRecDepth 100000 in
theorem go_X8_wide_51 {nc : Nat} {C : tf_C} {Q : tf_Q} {h : LH} (hn : 270 ≤ nc) {x1 : Int32} {x2 : Int32} {x3 : Int32} (q : ((h.1 0 0) ≤ x3 → lx_X8_wide nc C Q 79 [.ref (240), .int (x1), .int (x2), .int (x3)] [] h) ∧ (¬ (h.1 0 0) ≤ x3 → C 149 [.ref (0), .ref (265)] h (fun r g => lx_X8_wide nc C Q 73 [.ref (240), .int (x1), .int (x2), .int (x3)] [] g))) : lx_X8_wide nc C Q 51 [.ref (240), .int (x1), .int (x2), .int (x3)] [] h := by
  refine tf_LW_go ?_
  exact ⟨⟨(by first | rfl | trivial), (show 240 < nc by omega)⟩, ⟨⟨(by first | rfl | trivial), (show 0 < nc by omega)⟩, ⟨q.1, fun c1 => ⟨⟨(by first | rfl | trivial), (show 240 < nc by omega)⟩, ⟨⟨(by first | rfl | trivial), (show 240 < nc by omega)⟩, ⟨Nat.le_of_ble_eq_true rfl, Nat.le_of_ble_eq_true rfl, (q.2 c1)⟩⟩⟩⟩⟩⟩
set_option maxRecDepth 100000 in
theorem go_X8_wide_73 {nc : Nat} {C : tf_C} {Q : tf_Q} {h : LH} (hn : 270 ≤ nc) {x1 : Int32} {x2 : Int32} {x3 : Int32} (q : lx_X8_wide nc C Q 51 [.ref (240), .int (x1), .int (x2), .int (x3 + 1)] [] h) : lx_X8_wide nc C Q 73 [.ref (240), .int (x1), .int (x2), .int (x3)] [] h := by
  refine tf_LW_go ?_
  exact q
set_option maxRecDepth 100000 in
theorem go_X8_wide_79 {nc : Nat} {C : tf_C} {Q : tf_Q} {h : LH} (hn : 270 ≤ nc) {x1 : Int32} {x2 : Int32} {x3 : Int32} (q : (vp_in x2 7) ∧ Q (.int (h.1 265 (x2 : Int32).toNatClampNeg)) h) : lx_X8_wide nc C Q 79 [.ref (240), .int (x1), .int (x2), .int (x3)] [] h := by
  refine tf_LW_go ?_
  exact ⟨⟨(by first | rfl | trivial), (show 240 < nc by omega)⟩, ⟨⟨(by first | rfl | trivial), (show 265 < nc by omega), q.1⟩, ⟨(by first | trivial | rfl), q.2⟩⟩⟩
abbrev lx_X8_trip (nc : Nat) (C : tf_C) (Q : tf_Q) : tf_X := tf_LW nc C (tf_F 6) (tf_M 6) (tf_I 6) (tf_Eh 202) 1 tb_X8_trip Q
set_option maxRecDepth 100000 in
theorem go_X8_trip_0 {nc : Nat} {C : tf_C} {Q : tf_Q} {h : LH} (hn : 270 ≤ nc) {x1 : Int32} {x2 : Int32} (q : C 174 [.ref (244), .ref (0)] h (fun r g => lx_X8_trip nc C Q 11 [.ref (240), .int (x1), .int (x2)] [] g)) : lx_X8_trip nc C Q 0 [.ref (240), .int (x1), .int (x2)] [] h := by
  refine tf_LW_go ?_
  exact ⟨⟨(by first | rfl | trivial), (show 240 < nc by omega)⟩, ⟨⟨(by first | rfl | trivial), (show 240 < nc by omega)⟩, ⟨Nat.le_of_ble_eq_true rfl, Nat.le_of_ble_eq_true rfl, q⟩⟩⟩
theorem en_X8_trip {nc d : Nat} {Q : tf_Q} {h : LH} (hn : 270 ≤ nc) {x1 : Int32} {x2 : Int32} (q : lx_X8_trip nc (tf_Cd nc d) Q 0 [.ref (240), .int (x1), .int (x2)] [] h) : tf_Cd nc (d + 1) 202 [.ref (240), .int (x1), .int (x2)] h Q := by
  exact ⟨⟨Nat.le_of_ble_eq_true rfl, Or.inr ⟨rfl, (show 240 < nc by omega)⟩⟩, q⟩
set_option maxRecDepth 100000 in
theorem go_X8_trip_11 {nc : Nat} {C : tf_C} {Q : tf_Q} {h : LH} (hn : 270 ≤ nc) {x1 : Int32} {x2 : Int32} (q : (x1 = ((-1) : Int32) → (x2 = (0 : Int32) → lx_X8_trip nc C Q 31 [.ref (240), .int (x1), .int (x2)] [.int (h.1 244 0)] h) ∧ (¬ x2 = (0 : Int32) → lx_X8_trip nc C Q 30 [.ref (240), .int (x1), .int (x2)] [] h)) ∧ (¬ x1 = ((-1) : Int32) → lx_X8_trip nc C Q 32 [.ref (240), .int (x1), .int (x2)] [] h)) : lx_X8_trip nc C Q 11 [.ref (240), .int (x1), .int (x2)] [] h := by
  refine tf_LW_go ?_
  exact ⟨fun c2 => ⟨fun c1 => ⟨⟨(by first | rfl | trivial), (show 240 < nc by omega)⟩, ⟨⟨(by first | rfl | trivial), (show 244 < nc by omega)⟩, ((q.1 c2).1 c1)⟩⟩, (q.1 c2).2⟩, q.2⟩
set_option maxRecDepth 100000 in
theorem go_X8_trip_30 {nc : Nat} {C : tf_C} {Q : tf_Q} {h : LH} (hn : 270 ≤ nc) {x1 : Int32} {x2 : Int32} (q : lx_X8_trip nc C Q 31 [.ref (240), .int (x1), .int (x2)] [.int ((-1))] h) : lx_X8_trip nc C Q 30 [.ref (240), .int (x1), .int (x2)] [] h := by
  refine tf_LW_go ?_
  exact q
set_option maxRecDepth 100000 in
theorem go_X8_trip_31 {nc : Nat} {C : tf_C} {Q : tf_Q} {h : LH} (hn : 270 ≤ nc) {x1 : Int32} {x2 : Int32} {y0 : Int32} (q : Q (.int (y0)) h) : lx_X8_trip nc C Q 31 [.ref (240), .int (x1), .int (x2)] [.int (y0)] h := by
  refine tf_LW_go ?_
  exact ⟨(by first | trivial | rfl), q⟩
set_option maxRecDepth 100000 in
theorem go_X8_trip_32 {nc : Nat} {C : tf_C} {Q : tf_Q} {h : LH} (hn : 270 ≤ nc) {x1 : Int32} {x2 : Int32} (q : C 175 [.ref (244), .int (x1), .int (x2)] h (fun r g => lx_X8_trip nc C Q 41 [.ref (240), .int (x1), .int (x2)] (r :: []) g)) : lx_X8_trip nc C Q 32 [.ref (240), .int (x1), .int (x2)] [] h := by
  refine tf_LW_go ?_
  exact ⟨⟨(by first | rfl | trivial), (show 240 < nc by omega)⟩, ⟨Nat.le_of_ble_eq_true rfl, Nat.le_of_ble_eq_true rfl, q⟩⟩
set_option maxRecDepth 100000 in
theorem go_X8_trip_41 {nc : Nat} {C : tf_C} {Q : tf_Q} {h : LH} (hn : 270 ≤ nc) {x1 : Int32} {x2 : Int32} {y0 : Int32} (q : Q (.int (y0)) h) : lx_X8_trip nc C Q 41 [.ref (240), .int (x1), .int (x2)] [.int (y0)] h := by
  refine tf_LW_go ?_
  exact ⟨(by first | trivial | rfl), q⟩
abbrev lx_X8_apart (nc : Nat) (C : tf_C) (Q : tf_Q) : tf_X := tf_LW nc C (tf_F 6) (tf_M 6) (tf_I 6) (tf_Eh 203) 1 tb_X8_apart Q
set_option maxRecDepth 100000 in
theorem go_X8_apart_0 {nc : Nat} {C : tf_C} {Q : tf_Q} {h : LH} (hn : 270 ≤ nc) {x1 : Int32} (q : C 213 [.ref (240), .int (x1)] h (fun r g => lx_X8_apart nc C Q 5 [.ref (240), .int (x1)] (r :: []) g)) : lx_X8_apart nc C Q 0 [.ref (240), .int (x1)] [] h := by
  refine tf_LW_go ?_
  exact ⟨Nat.le_of_ble_eq_true rfl, Nat.le_of_ble_eq_true rfl, q⟩
theorem en_X8_apart {nc d : Nat} {Q : tf_Q} {h : LH} (hn : 270 ≤ nc) {x1 : Int32} (q : lx_X8_apart nc (tf_Cd nc d) Q 0 [.ref (240), .int (x1)] [] h) : tf_Cd nc (d + 1) 203 [.ref (240), .int (x1)] h Q := by
  exact ⟨⟨Nat.le_of_ble_eq_true rfl, Or.inr ⟨rfl, (show 240 < nc by omega)⟩⟩, q⟩
set_option maxRecDepth 100000 in
theorem go_X8_apart_5 {nc : Nat} {C : tf_C} {Q : tf_Q} {h : LH} (hn : 270 ≤ nc) {x1 : Int32} {y0 : Int32} (q : (y0 = (0 : Int32) → lx_X8_apart nc C Q 24 [.ref (240), .int (x1)] [] h) ∧ (¬ y0 = (0 : Int32) → (vp_in x1 3) ∧ C 148 [.ref (0), .ref (tf_R 267 (x1 : Int32).toNatClampNeg)] h (fun r g => lx_X8_apart nc C Q 21 [.ref (240), .int (x1)] (r :: []) g))) : lx_X8_apart nc C Q 5 [.ref (240), .int (x1)] [.int (y0)] h := by
  refine tf_LW_go ?_
  exact ⟨q.1, fun c1 => ⟨⟨(by first | rfl | trivial), (show 240 < nc by omega)⟩, ⟨⟨(by first | rfl | trivial), (show 240 < nc by omega)⟩, ⟨⟨(Or.inl (by first | rfl | trivial)), (show 267 < nc by omega), (q.2 c1).1⟩, ⟨Nat.le_of_ble_eq_true rfl, Nat.le_of_ble_eq_true rfl, (q.2 c1).2⟩⟩⟩⟩⟩
set_option maxRecDepth 100000 in
theorem go_X8_apart_21 {nc : Nat} {C : tf_C} {Q : tf_Q} {h : LH} (hn : 270 ≤ nc) {x1 : Int32} {y0 : Int32} (q : lx_X8_apart nc C Q 25 [.ref (240), .int (x1)] [.int (y0)] h) : lx_X8_apart nc C Q 21 [.ref (240), .int (x1)] [.int (y0)] h := by
  refine tf_LW_go ?_
  exact q
set_option maxRecDepth 100000 in
theorem go_X8_apart_24 {nc : Nat} {C : tf_C} {Q : tf_Q} {h : LH} (hn : 270 ≤ nc) {x1 : Int32} (q : lx_X8_apart nc C Q 25 [.ref (240), .int (x1)] [.int ((-1))] h) : lx_X8_apart nc C Q 24 [.ref (240), .int (x1)] [] h := by
  refine tf_LW_go ?_
  exact q
set_option maxRecDepth 100000 in
theorem go_X8_apart_25 {nc : Nat} {C : tf_C} {Q : tf_Q} {h : LH} (hn : 270 ≤ nc) {x1 : Int32} {y0 : Int32} (q : Q (.int (y0)) h) : lx_X8_apart nc C Q 25 [.ref (240), .int (x1)] [.int (y0)] h := by
  refine tf_LW_go ?_
  exact ⟨(by first | trivial | rfl), q⟩
abbrev lx_X8_span (nc : Nat) (C : tf_C) (Q : tf_Q) : tf_X := tf_LW nc C (tf_F 6) (tf_M 6) (tf_I 6) (tf_Eh 204) 1 tb_X8_span Q
set_option maxRecDepth 100000 in
theorem go_X8_span_0 {nc : Nat} {C : tf_C} {Q : tf_Q} {h : LH} (hn : 270 ≤ nc) {x1 : Int32} {x2 : Int32} (q : C 119 [.ref (0), .int (x1)] h (fun r g => lx_X8_span nc C Q 8 [.ref (240), .int (x1), .int (x2)] (r :: []) g)) : lx_X8_span nc C Q 0 [.ref (240), .int (x1), .int (x2)] [] h := by
  refine tf_LW_go ?_
  exact ⟨⟨(by first | rfl | trivial), (show 240 < nc by omega)⟩, ⟨Nat.le_of_ble_eq_true rfl, Nat.le_of_ble_eq_true rfl, q⟩⟩
theorem en_X8_span {nc d : Nat} {Q : tf_Q} {h : LH} (hn : 270 ≤ nc) {x1 : Int32} {x2 : Int32} (q : lx_X8_span nc (tf_Cd nc d) Q 0 [.ref (240), .int (x1), .int (x2)] [] h) : tf_Cd nc (d + 1) 204 [.ref (240), .int (x1), .int (x2)] h Q := by
  exact ⟨⟨Nat.le_of_ble_eq_true rfl, Or.inr ⟨rfl, (show 240 < nc by omega)⟩⟩, q⟩
set_option maxRecDepth 100000 in
theorem go_X8_span_8 {nc : Nat} {C : tf_C} {Q : tf_Q} {h : LH} (hn : 270 ≤ nc) {x1 : Int32} {x2 : Int32} {y0 : Int32} (q : (y0 = (0 : Int32) → lx_X8_span nc C Q 21 [.ref (240), .int (x1), .int (x2)] [] h) ∧ (¬ y0 = (0 : Int32) → C 134 [.ref (0)] h (fun r g => lx_X8_span nc C Q 18 [.ref (240), .int (x1), .int (x2)] (r :: []) g))) : lx_X8_span nc C Q 8 [.ref (240), .int (x1), .int (x2)] [.int (y0)] h := by
  refine tf_LW_go ?_
  exact ⟨q.1, fun c1 => ⟨⟨(by first | rfl | trivial), (show 240 < nc by omega)⟩, ⟨Nat.le_of_ble_eq_true rfl, Nat.le_of_ble_eq_true rfl, (q.2 c1)⟩⟩⟩
set_option maxRecDepth 100000 in
theorem go_X8_span_18 {nc : Nat} {C : tf_C} {Q : tf_Q} {h : LH} (hn : 270 ≤ nc) {x1 : Int32} {x2 : Int32} {y0 : Int32} (q : (y0 ≤ (0 : Int32) → lx_X8_span nc C Q 25 [.ref (240), .int (x1), .int (x2)] [] h) ∧ (¬ y0 ≤ (0 : Int32) → lx_X8_span nc C Q 21 [.ref (240), .int (x1), .int (x2)] [] h)) : lx_X8_span nc C Q 18 [.ref (240), .int (x1), .int (x2)] [.int (y0)] h := by
  refine tf_LW_go ?_
  exact ⟨q.1, fun c1 => (q.2 c1)⟩
set_option maxRecDepth 100000 in
theorem go_X8_span_21 {nc : Nat} {C : tf_C} {Q : tf_Q} {h : LH} (hn : 270 ≤ nc) {x1 : Int32} {x2 : Int32} (q : Q (.int ((-1000))) h) : lx_X8_span nc C Q 21 [.ref (240), .int (x1), .int (x2)] [] h := by
  refine tf_LW_go ?_
  exact ⟨(by first | trivial | rfl), q⟩
set_option maxRecDepth 100000 in
theorem go_X8_span_25 {nc : Nat} {C : tf_C} {Q : tf_Q} {h : LH} (hn : 270 ≤ nc) {x1 : Int32} {x2 : Int32} (q : (x2 = (0 : Int32) → lx_X8_span nc C Q 40 [.ref (240), .int (x1), .int (x2)] [] h) ∧ (¬ x2 = (0 : Int32) → C 153 [.ref (0), .int (x1)] h (fun r g => lx_X8_span nc C Q 37 [.ref (240), .int (x1), .int (x2)] (r :: []) g))) : lx_X8_span nc C Q 25 [.ref (240), .int (x1), .int (x2)] [] h := by
  refine tf_LW_go ?_
  exact ⟨q.1, fun c1 => ⟨⟨(by first | rfl | trivial), (show 240 < nc by omega)⟩, ⟨Nat.le_of_ble_eq_true rfl, Nat.le_of_ble_eq_true rfl, (q.2 c1)⟩⟩⟩
set_option maxRecDepth 100000 in
theorem go_X8_span_37 {nc : Nat} {C : tf_C} {Q : tf_Q} {h : LH} (hn : 270 ≤ nc) {x1 : Int32} {x2 : Int32} {y0 : Int32} (q : lx_X8_span nc C Q 48 [.ref (240), .int (x1), .int (x2)] [.int (y0)] h) : lx_X8_span nc C Q 37 [.ref (240), .int (x1), .int (x2)] [.int (y0)] h := by
  refine tf_LW_go ?_
  exact q
set_option maxRecDepth 100000 in
theorem go_X8_span_40 {nc : Nat} {C : tf_C} {Q : tf_Q} {h : LH} (hn : 270 ≤ nc) {x1 : Int32} {x2 : Int32} (q : C 152 [.ref (0), .int (x1)] h (fun r g => lx_X8_span nc C Q 48 [.ref (240), .int (x1), .int (x2)] (r :: []) g)) : lx_X8_span nc C Q 40 [.ref (240), .int (x1), .int (x2)] [] h := by
  refine tf_LW_go ?_
  exact ⟨⟨(by first | rfl | trivial), (show 240 < nc by omega)⟩, ⟨Nat.le_of_ble_eq_true rfl, Nat.le_of_ble_eq_true rfl, q⟩⟩
set_option maxRecDepth 100000 in
theorem go_X8_span_48 {nc : Nat} {C : tf_C} {Q : tf_Q} {h : LH} (hn : 270 ≤ nc) {x1 : Int32} {x2 : Int32} {y0 : Int32} (q : Q (.int (y0)) h) : lx_X8_span nc C Q 48 [.ref (240), .int (x1), .int (x2)] [.int (y0)] h := by
  refine tf_LW_go ?_
  exact ⟨(by first | trivial | rfl), q⟩
abbrev lx_X8_least (nc : Nat) (C : tf_C) (Q : tf_Q) : tf_X := tf_LW nc C (tf_F 6) (tf_M 6) (tf_I 6) (tf_Eh 205) 1 tb_X8_least Q
set_option maxRecDepth 100000 in
theorem go_X8_least_0 {nc : Nat} {C : tf_C} {Q : tf_Q} {h : LH} (hn : 270 ≤ nc) (q : C 116 [.ref (15), .ref (0)] h (fun r g => lx_X8_least nc C Q 11 [.ref (240)] [] g)) : lx_X8_least nc C Q 0 [.ref (240)] [] h := by
  refine tf_LW_go ?_
  exact ⟨⟨(by first | rfl | trivial), (show 240 < nc by omega)⟩, ⟨⟨(by first | rfl | trivial), (show 240 < nc by omega)⟩, ⟨Nat.le_of_ble_eq_true rfl, Nat.le_of_ble_eq_true rfl, q⟩⟩⟩
theorem en_X8_least {nc d : Nat} {Q : tf_Q} {h : LH} (hn : 270 ≤ nc) (q : lx_X8_least nc (tf_Cd nc d) Q 0 [.ref (240)] [] h) : tf_Cd nc (d + 1) 205 [.ref (240)] h Q := by
  exact ⟨⟨Nat.le_of_ble_eq_true rfl, Or.inr ⟨rfl, (show 240 < nc by omega)⟩⟩, q⟩
set_option maxRecDepth 100000 in
theorem go_X8_least_11 {nc : Nat} {C : tf_C} {Q : tf_Q} {h : LH} (hn : 270 ≤ nc) (q : C 217 [.ref (240)] h (fun r g => lx_X8_least nc C Q 15 [.ref (240)] (r :: []) g)) : lx_X8_least nc C Q 11 [.ref (240)] [] h := by
  refine tf_LW_go ?_
  exact ⟨Nat.le_of_ble_eq_true rfl, Nat.le_of_ble_eq_true rfl, q⟩
set_option maxRecDepth 100000 in
theorem go_X8_least_15 {nc : Nat} {C : tf_C} {Q : tf_Q} {h : LH} (hn : 270 ≤ nc) {y0 : Int32} (q : Q (.int (y0)) h) : lx_X8_least nc C Q 15 [.ref (240)] [.int (y0)] h := by
  refine tf_LW_go ?_
  exact ⟨(by first | trivial | rfl), q⟩
abbrev lx_X8_lack (nc : Nat) (C : tf_C) (Q : tf_Q) : tf_X := tf_LW nc C (tf_F 6) (tf_M 6) (tf_I 6) (tf_Eh 206) 1 tb_X8_lack Q
set_option maxRecDepth 100000 in
theorem go_X8_lack_0 {nc : Nat} {C : tf_C} {Q : tf_Q} {h : LH} (hn : 270 ≤ nc) (q : C 151 [.ref (0)] h (fun r g => lx_X8_lack nc C Q 12 [.ref (240)] (r :: [.ref (0), .int (2)]) g)) : lx_X8_lack nc C Q 0 [.ref (240)] [] h := by
  refine tf_LW_go ?_
  exact ⟨⟨(by first | rfl | trivial), (show 240 < nc by omega)⟩, ⟨⟨(by first | rfl | trivial), (show 240 < nc by omega)⟩, ⟨Nat.le_of_ble_eq_true rfl, Nat.le_of_ble_eq_true rfl, q⟩⟩⟩
theorem en_X8_lack {nc d : Nat} {Q : tf_Q} {h : LH} (hn : 270 ≤ nc) (q : lx_X8_lack nc (tf_Cd nc d) Q 0 [.ref (240)] [] h) : tf_Cd nc (d + 1) 206 [.ref (240)] h Q := by
  exact ⟨⟨Nat.le_of_ble_eq_true rfl, Or.inr ⟨rfl, (show 240 < nc by omega)⟩⟩, q⟩
set_option maxRecDepth 100000 in
theorem go_X8_lack_12 {nc : Nat} {C : tf_C} {Q : tf_Q} {h : LH} (hn : 270 ≤ nc) {y0 : Int32} {y1 : Nat} {y2 : Int32} (Ky1_0 : tf_K y1 = 0) (q : C 150 [.ref (y1), .int (y2)] h (fun r g => lx_X8_lack nc C Q 15 [.ref (240)] (r :: [.int (y0)]) g)) : lx_X8_lack nc C Q 12 [.ref (240)] [.int (y2), .ref (y1), .int (y0)] h := by
  obtain ⟨By1, ⟨Ky1_1, Ky1_2, Ky1_3, Ky1_4, Ky1_5, Ky1_6, Ky1_7, Ky1_8, Ky1_9, Ky1_10, Ky1_11, Ky1_12, Ky1_13, Ky1_14⟩, ⟨Ny1_1, Ny1_2, Ny1_3, Ny1_4, Ny1_5, Ny1_6, Ny1_7, Ny1_8, Ny1_9, Ny1_10, Ny1_12, Ny1_13, Ny1_14⟩⟩ := tn_net Ky1_0
  refine tf_LW_go ?_
  exact ⟨Nat.le_of_ble_eq_true rfl, Nat.le_of_ble_eq_true rfl, q⟩
set_option maxRecDepth 100000 in
theorem go_X8_lack_15 {nc : Nat} {C : tf_C} {Q : tf_Q} {h : LH} (hn : 270 ≤ nc) {y0 : Int32} {y1 : Int32} (q : Q (.int (y0 * y1)) h) : lx_X8_lack nc C Q 15 [.ref (240)] [.int (y1), .int (y0)] h := by
  refine tf_LW_go ?_
  exact ⟨(by first | trivial | rfl), q⟩
abbrev lx_X8_cut (nc : Nat) (C : tf_C) (Q : tf_Q) : tf_X := tf_LW nc C (tf_F 6) (tf_M 6) (tf_I 6) (tf_Eh 207) 1 tb_X8_cut Q
set_option maxRecDepth 100000 in
theorem go_X8_cut_0 {nc : Nat} {C : tf_C} {Q : tf_Q} {h : LH} (hn : 270 ≤ nc) (q : C 151 [.ref (0)] h (fun r g => lx_X8_cut nc C Q 7 [.ref (240)] (r :: []) g)) : lx_X8_cut nc C Q 0 [.ref (240)] [] h := by
  refine tf_LW_go ?_
  exact ⟨⟨(by first | rfl | trivial), (show 240 < nc by omega)⟩, ⟨Nat.le_of_ble_eq_true rfl, Nat.le_of_ble_eq_true rfl, q⟩⟩
theorem en_X8_cut {nc d : Nat} {Q : tf_Q} {h : LH} (hn : 270 ≤ nc) (q : lx_X8_cut nc (tf_Cd nc d) Q 0 [.ref (240)] [] h) : tf_Cd nc (d + 1) 207 [.ref (240)] h Q := by
  exact ⟨⟨Nat.le_of_ble_eq_true rfl, Or.inr ⟨rfl, (show 240 < nc by omega)⟩⟩, q⟩
set_option maxRecDepth 100000 in
theorem go_X8_cut_7 {nc : Nat} {C : tf_C} {Q : tf_Q} {h : LH} (hn : 270 ≤ nc) {y0 : Int32} (q : Q (.int (y0)) h) : lx_X8_cut nc C Q 7 [.ref (240)] [.int (y0)] h := by
  refine tf_LW_go ?_
  exact ⟨(by first | trivial | rfl), q⟩
abbrev lx_X8_steps (nc : Nat) (C : tf_C) (Q : tf_Q) : tf_X := tf_LW nc C (tf_F 6) (tf_M 6) (tf_I 6) (tf_Eh 208) 1 tb_X8_steps Q
set_option maxRecDepth 100000 in
theorem go_X8_steps_0 {nc : Nat} {C : tf_C} {Q : tf_Q} {h : LH} (hn : 270 ≤ nc) {x1 : Int32} (q : C 221 [.int (x1)] h (fun r g => lx_X8_steps nc C Q 4 [.ref (240), .int (x1)] (r :: []) g)) : lx_X8_steps nc C Q 0 [.ref (240), .int (x1)] [] h := by
  refine tf_LW_go ?_
  exact ⟨Nat.le_of_ble_eq_true rfl, Nat.le_of_ble_eq_true rfl, q⟩
theorem en_X8_steps {nc d : Nat} {Q : tf_Q} {h : LH} (hn : 270 ≤ nc) {x1 : Int32} (q : lx_X8_steps nc (tf_Cd nc d) Q 0 [.ref (240), .int (x1)] [] h) : tf_Cd nc (d + 1) 208 [.ref (240), .int (x1)] h Q := by
  exact ⟨⟨Nat.le_of_ble_eq_true rfl, Or.inr ⟨rfl, (show 240 < nc by omega)⟩⟩, q⟩
set_option maxRecDepth 100000 in
theorem go_X8_steps_4 {nc : Nat} {C : tf_C} {Q : tf_Q} {h : LH} (hn : 270 ≤ nc) {x1 : Int32} {y0 : Int32} (q : (y0 = (0 : Int32) → Q (.int ((-1))) h) ∧ (¬ y0 = (0 : Int32) → lx_X8_steps nc C Q 9 [.ref (240), .int (x1)] [] h)) : lx_X8_steps nc C Q 4 [.ref (240), .int (x1)] [.int (y0)] h := by
  refine tf_LW_go ?_
  exact ⟨fun c1 => ⟨(by first | trivial | rfl), (q.1 c1)⟩, q.2⟩
set_option maxRecDepth 100000 in
theorem go_X8_steps_9 {nc : Nat} {C : tf_C} {Q : tf_Q} {h : LH} (hn : 270 ≤ nc) {x1 : Int32} (q : C 116 [.ref (15), .ref (0)] h (fun r g => lx_X8_steps nc C Q 20 [.ref (240), .int (x1)] [] g)) : lx_X8_steps nc C Q 9 [.ref (240), .int (x1)] [] h := by
  refine tf_LW_go ?_
  exact ⟨⟨(by first | rfl | trivial), (show 240 < nc by omega)⟩, ⟨⟨(by first | rfl | trivial), (show 240 < nc by omega)⟩, ⟨Nat.le_of_ble_eq_true rfl, Nat.le_of_ble_eq_true rfl, q⟩⟩⟩
set_option maxRecDepth 100000 in
theorem go_X8_steps_20 {nc : Nat} {C : tf_C} {Q : tf_Q} {h : LH} (hn : 270 ≤ nc) {x1 : Int32} (q : C 160 [.ref (241), .ref (15), .int (x1), .int (1000000)] h (fun r g => lx_X8_steps nc C Q 35 [.ref (240), .int (x1)] (r :: []) g)) : lx_X8_steps nc C Q 20 [.ref (240), .int (x1)] [] h := by
  refine tf_LW_go ?_
  exact ⟨⟨(by first | rfl | trivial), (show 240 < nc by omega)⟩, ⟨⟨(by first | rfl | trivial), (show 240 < nc by omega)⟩, ⟨Nat.le_of_ble_eq_true rfl, Nat.le_of_ble_eq_true rfl, q⟩⟩⟩
set_option maxRecDepth 100000 in
theorem go_X8_steps_35 {nc : Nat} {C : tf_C} {Q : tf_Q} {h : LH} (hn : 270 ≤ nc) {x1 : Int32} {y0 : Int32} (q : Q (.int (y0)) h) : lx_X8_steps nc C Q 35 [.ref (240), .int (x1)] [.int (y0)] h := by
  refine tf_LW_go ?_
  exact ⟨(by first | trivial | rfl), q⟩
abbrev lx_X8_worth (nc : Nat) (C : tf_C) (Q : tf_Q) : tf_X := tf_LW nc C (tf_F 6) (tf_M 6) (tf_I 6) (tf_Eh 209) 1 tb_X8_worth Q
set_option maxRecDepth 100000 in
theorem go_X8_worth_0 {nc : Nat} {C : tf_C} {Q : tf_Q} {h : LH} (hn : 270 ≤ nc) {x1 : Int32} {x2 : Int32} (q : C 119 [.ref (0), .int (x1)] h (fun r g => lx_X8_worth nc C Q 8 [.ref (240), .int (x1), .int (x2), tf_z] (r :: []) g)) : lx_X8_worth nc C Q 0 [.ref (240), .int (x1), .int (x2), tf_z] [] h := by
  refine tf_LW_go ?_
  exact ⟨⟨(by first | rfl | trivial), (show 240 < nc by omega)⟩, ⟨Nat.le_of_ble_eq_true rfl, Nat.le_of_ble_eq_true rfl, q⟩⟩
theorem en_X8_worth {nc d : Nat} {Q : tf_Q} {h : LH} (hn : 270 ≤ nc) {x1 : Int32} {x2 : Int32} (q : lx_X8_worth nc (tf_Cd nc d) Q 0 [.ref (240), .int (x1), .int (x2), tf_z] [] h) : tf_Cd nc (d + 1) 209 [.ref (240), .int (x1), .int (x2)] h Q := by
  exact ⟨⟨Nat.le_of_ble_eq_true rfl, Or.inr ⟨rfl, (show 240 < nc by omega)⟩⟩, q⟩
set_option maxRecDepth 100000 in
theorem go_X8_worth_8 {nc : Nat} {C : tf_C} {Q : tf_Q} {h : LH} (hn : 270 ≤ nc) {x1 : Int32} {x2 : Int32} {y0 : Int32} (q : (y0 = (0 : Int32) → lx_X8_worth nc C Q 20 [.ref (240), .int (x1), .int (x2), tf_z] [] h) ∧ (¬ y0 = (0 : Int32) → (x2 < (0 : Int32) → lx_X8_worth nc C Q 20 [.ref (240), .int (x1), .int (x2), tf_z] [] h) ∧ (¬ x2 < (0 : Int32) → (x2 ≤ (2 : Int32) → lx_X8_worth nc C Q 24 [.ref (240), .int (x1), .int (x2), tf_z] [] h) ∧ (¬ x2 ≤ (2 : Int32) → lx_X8_worth nc C Q 20 [.ref (240), .int (x1), .int (x2), tf_z] [] h)))) : lx_X8_worth nc C Q 8 [.ref (240), .int (x1), .int (x2), tf_z] [.int (y0)] h := by
  refine tf_LW_go ?_
  exact ⟨q.1, fun c3 => ⟨(q.2 c3).1, fun c2 => ⟨((q.2 c3).2 c2).1, fun c1 => (((q.2 c3).2 c2).2 c1)⟩⟩⟩
set_option maxRecDepth 100000 in
theorem go_X8_worth_20 {nc : Nat} {C : tf_C} {Q : tf_Q} {h : LH} (hn : 270 ≤ nc) {x1 : Int32} {x2 : Int32} (q : Q (.int ((-1000000))) h) : lx_X8_worth nc C Q 20 [.ref (240), .int (x1), .int (x2), tf_z] [] h := by
  refine tf_LW_go ?_
  exact ⟨(by first | trivial | rfl), q⟩
set_option maxRecDepth 100000 in
theorem go_X8_worth_24 {nc : Nat} {C : tf_C} {Q : tf_Q} {h : LH} (hn : 270 ≤ nc) {x1 : Int32} {x2 : Int32} (q : C 116 [.ref (15), .ref (0)] h (fun r g => lx_X8_worth nc C Q 35 [.ref (240), .int (x1), .int (x2), tf_z] [] g)) : lx_X8_worth nc C Q 24 [.ref (240), .int (x1), .int (x2), tf_z] [] h := by
  refine tf_LW_go ?_
  exact ⟨⟨(by first | rfl | trivial), (show 240 < nc by omega)⟩, ⟨⟨(by first | rfl | trivial), (show 240 < nc by omega)⟩, ⟨Nat.le_of_ble_eq_true rfl, Nat.le_of_ble_eq_true rfl, q⟩⟩⟩
set_option maxRecDepth 100000 in
theorem go_X8_worth_35 {nc : Nat} {C : tf_C} {Q : tf_Q} {h : LH} (hn : 270 ≤ nc) {x1 : Int32} {x2 : Int32} (q : C 217 [.ref (240)] h (fun r g => lx_X8_worth nc C Q 39 [.ref (240), .int (x1), .int (x2), tf_z] (r :: []) g)) : lx_X8_worth nc C Q 35 [.ref (240), .int (x1), .int (x2), tf_z] [] h := by
  refine tf_LW_go ?_
  exact ⟨Nat.le_of_ble_eq_true rfl, Nat.le_of_ble_eq_true rfl, q⟩
set_option maxRecDepth 100000 in
theorem go_X8_worth_39 {nc : Nat} {C : tf_C} {Q : tf_Q} {h : LH} (hn : 270 ≤ nc) {x1 : Int32} {x2 : Int32} {y0 : Int32} (q : C 116 [.ref (15), .ref (0)] h (fun r g => lx_X8_worth nc C Q 51 [.ref (240), .int (x1), .int (x2), .int (y0)] [] g)) : lx_X8_worth nc C Q 39 [.ref (240), .int (x1), .int (x2), tf_z] [.int (y0)] h := by
  refine tf_LW_go ?_
  exact ⟨⟨(by first | rfl | trivial), (show 240 < nc by omega)⟩, ⟨⟨(by first | rfl | trivial), (show 240 < nc by omega)⟩, ⟨Nat.le_of_ble_eq_true rfl, Nat.le_of_ble_eq_true rfl, q⟩⟩⟩
set_option maxRecDepth 100000 in
theorem go_X8_worth_51 {nc : Nat} {C : tf_C} {Q : tf_Q} {h : LH} (hn : 270 ≤ nc) {x1 : Int32} {x2 : Int32} {x3 : Int32} (q : (x2 = (0 : Int32) → (vp_in x1 21) ∧ (vp_in x1 21) ∧ lx_X8_worth nc C Q 102 [.ref (240), .int (x1), .int (x2), .int (x3)] [] (tf_up h.1 19 (x1 : Int32).toNatClampNeg ((h.1 19 (x1 : Int32).toNatClampNeg) + 1), h.2)) ∧ (¬ x2 = (0 : Int32) → lx_X8_worth nc C Q 71 [.ref (240), .int (x1), .int (x2), .int (x3)] [] h)) : lx_X8_worth nc C Q 51 [.ref (240), .int (x1), .int (x2), .int (x3)] [] h := by
  refine tf_LW_go ?_
  exact ⟨fun c1 => ⟨⟨(by first | rfl | trivial), (show 240 < nc by omega)⟩, ⟨⟨(by first | rfl | trivial), (show 15 < nc by omega)⟩, ⟨⟨(by first | rfl | trivial), (show 19 < nc by omega), (q.1 c1).1⟩, ⟨⟨(by first | rfl | trivial), (show 19 < nc by omega), (q.1 c1).2.1⟩, (q.1 c1).2.2⟩⟩⟩⟩, q.2⟩
set_option maxRecDepth 100000 in
theorem go_X8_worth_71 {nc : Nat} {C : tf_C} {Q : tf_Q} {h : LH} (hn : 270 ≤ nc) {x1 : Int32} {x2 : Int32} {x3 : Int32} (q : (x2 = (1 : Int32) → (vp_in x1 21) ∧ lx_X8_worth nc C Q 102 [.ref (240), .int (x1), .int (x2), .int (x3)] [] (tf_up h.1 22 (x1 : Int32).toNatClampNeg 3, h.2)) ∧ (¬ x2 = (1 : Int32) → lx_X8_worth nc C Q 89 [.ref (240), .int (x1), .int (x2), .int (x3)] [] h)) : lx_X8_worth nc C Q 71 [.ref (240), .int (x1), .int (x2), .int (x3)] [] h := by
  refine tf_LW_go ?_
  exact ⟨fun c1 => ⟨⟨(by first | rfl | trivial), (show 240 < nc by omega)⟩, ⟨⟨(by first | rfl | trivial), (show 15 < nc by omega)⟩, ⟨⟨(by first | rfl | trivial), (show 22 < nc by omega), (q.1 c1).1⟩, (q.1 c1).2⟩⟩⟩, q.2⟩
set_option maxRecDepth 100000 in
theorem go_X8_worth_89 {nc : Nat} {C : tf_C} {Q : tf_Q} {h : LH} (hn : 270 ≤ nc) {x1 : Int32} {x2 : Int32} {x3 : Int32} (q : (vp_in x1 21) ∧ (vp_in x1 21) ∧ lx_X8_worth nc C Q 102 [.ref (240), .int (x1), .int (x2), .int (x3)] [] (tf_up h.1 20 (x1 : Int32).toNatClampNeg ((h.1 20 (x1 : Int32).toNatClampNeg) + 1), h.2)) : lx_X8_worth nc C Q 89 [.ref (240), .int (x1), .int (x2), .int (x3)] [] h := by
  refine tf_LW_go ?_
  exact ⟨⟨(by first | rfl | trivial), (show 240 < nc by omega)⟩, ⟨⟨(by first | rfl | trivial), (show 15 < nc by omega)⟩, ⟨⟨(by first | rfl | trivial), (show 20 < nc by omega), q.1⟩, ⟨⟨(by first | rfl | trivial), (show 20 < nc by omega), q.2.1⟩, q.2.2⟩⟩⟩⟩
set_option maxRecDepth 100000 in
theorem go_X8_worth_102 {nc : Nat} {C : tf_C} {Q : tf_Q} {h : LH} (hn : 270 ≤ nc) {x1 : Int32} {x2 : Int32} {x3 : Int32} (q : C 128 [.ref (15), .int (1)] h (fun r g => lx_X8_worth nc C Q 110 [.ref (240), .int (x1), .int (x2), .int (x3)] [] g)) : lx_X8_worth nc C Q 102 [.ref (240), .int (x1), .int (x2), .int (x3)] [] h := by
  refine tf_LW_go ?_
  exact ⟨⟨(by first | rfl | trivial), (show 240 < nc by omega)⟩, ⟨Nat.le_of_ble_eq_true rfl, Nat.le_of_ble_eq_true rfl, q⟩⟩
set_option maxRecDepth 100000 in
theorem go_X8_worth_110 {nc : Nat} {C : tf_C} {Q : tf_Q} {h : LH} (hn : 270 ≤ nc) {x1 : Int32} {x2 : Int32} {x3 : Int32} (q : C 217 [.ref (240)] h (fun r g => lx_X8_worth nc C Q 114 [.ref (240), .int (x1), .int (x2), .int (x3)] (r :: []) g)) : lx_X8_worth nc C Q 110 [.ref (240), .int (x1), .int (x2), .int (x3)] [] h := by
  refine tf_LW_go ?_
  exact ⟨Nat.le_of_ble_eq_true rfl, Nat.le_of_ble_eq_true rfl, q⟩
set_option maxRecDepth 100000 in
theorem go_X8_worth_114 {nc : Nat} {C : tf_C} {Q : tf_Q} {h : LH} (hn : 270 ≤ nc) {x1 : Int32} {x2 : Int32} {x3 : Int32} {y0 : Int32} (q : C 218 [.int (y0), .int (x3)] h (fun r g => lx_X8_worth nc C Q 118 [.ref (240), .int (x1), .int (x2), .int (x3)] (r :: []) g)) : lx_X8_worth nc C Q 114 [.ref (240), .int (x1), .int (x2), .int (x3)] [.int (y0)] h := by
  refine tf_LW_go ?_
  exact ⟨Nat.le_of_ble_eq_true rfl, Nat.le_of_ble_eq_true rfl, q⟩
set_option maxRecDepth 100000 in
theorem go_X8_worth_118 {nc : Nat} {C : tf_C} {Q : tf_Q} {h : LH} (hn : 270 ≤ nc) {x1 : Int32} {x2 : Int32} {x3 : Int32} {y0 : Int32} (q : Q (.int (y0)) h) : lx_X8_worth nc C Q 118 [.ref (240), .int (x1), .int (x2), .int (x3)] [.int (y0)] h := by
  refine tf_LW_go ?_
  exact ⟨(by first | trivial | rfl), q⟩
abbrev lx_X8_toll (nc : Nat) (C : tf_C) (Q : tf_Q) : tf_X := tf_LW nc C (tf_F 6) (tf_M 6) (tf_I 6) (tf_Eh 210) 1 tb_X8_toll Q
set_option maxRecDepth 100000 in
theorem go_X8_toll_0 {nc : Nat} {C : tf_C} {Q : tf_Q} {h : LH} (hn : 270 ≤ nc) {x1 : Int32} {x2 : Int32} (q : C 121 [.ref (0), .int (x1), .int (x2)] h (fun r g => lx_X8_toll nc C Q 9 [.ref (240), .int (x1), .int (x2), tf_z] (r :: []) g)) : lx_X8_toll nc C Q 0 [.ref (240), .int (x1), .int (x2), tf_z] [] h := by
  refine tf_LW_go ?_
  exact ⟨⟨(by first | rfl | trivial), (show 240 < nc by omega)⟩, ⟨Nat.le_of_ble_eq_true rfl, Nat.le_of_ble_eq_true rfl, q⟩⟩
theorem en_X8_toll {nc d : Nat} {Q : tf_Q} {h : LH} (hn : 270 ≤ nc) {x1 : Int32} {x2 : Int32} (q : lx_X8_toll nc (tf_Cd nc d) Q 0 [.ref (240), .int (x1), .int (x2), tf_z] [] h) : tf_Cd nc (d + 1) 210 [.ref (240), .int (x1), .int (x2)] h Q := by
  exact ⟨⟨Nat.le_of_ble_eq_true rfl, Or.inr ⟨rfl, (show 240 < nc by omega)⟩⟩, q⟩
set_option maxRecDepth 100000 in
theorem go_X8_toll_9 {nc : Nat} {C : tf_C} {Q : tf_Q} {h : LH} (hn : 270 ≤ nc) {x1 : Int32} {x2 : Int32} {y0 : Int32} (q : (y0 = (0 : Int32) → Q (.int ((-1000000))) h) ∧ (¬ y0 = (0 : Int32) → lx_X8_toll nc C Q 16 [.ref (240), .int (x1), .int (x2), tf_z] [] h)) : lx_X8_toll nc C Q 9 [.ref (240), .int (x1), .int (x2), tf_z] [.int (y0)] h := by
  refine tf_LW_go ?_
  exact ⟨fun c1 => ⟨(by first | trivial | rfl), (q.1 c1)⟩, q.2⟩
set_option maxRecDepth 100000 in
theorem go_X8_toll_16 {nc : Nat} {C : tf_C} {Q : tf_Q} {h : LH} (hn : 270 ≤ nc) {x1 : Int32} {x2 : Int32} (q : C 116 [.ref (15), .ref (0)] h (fun r g => lx_X8_toll nc C Q 27 [.ref (240), .int (x1), .int (x2), tf_z] [] g)) : lx_X8_toll nc C Q 16 [.ref (240), .int (x1), .int (x2), tf_z] [] h := by
  refine tf_LW_go ?_
  exact ⟨⟨(by first | rfl | trivial), (show 240 < nc by omega)⟩, ⟨⟨(by first | rfl | trivial), (show 240 < nc by omega)⟩, ⟨Nat.le_of_ble_eq_true rfl, Nat.le_of_ble_eq_true rfl, q⟩⟩⟩
set_option maxRecDepth 100000 in
theorem go_X8_toll_27 {nc : Nat} {C : tf_C} {Q : tf_Q} {h : LH} (hn : 270 ≤ nc) {x1 : Int32} {x2 : Int32} (q : C 217 [.ref (240)] h (fun r g => lx_X8_toll nc C Q 31 [.ref (240), .int (x1), .int (x2), tf_z] (r :: []) g)) : lx_X8_toll nc C Q 27 [.ref (240), .int (x1), .int (x2), tf_z] [] h := by
  refine tf_LW_go ?_
  exact ⟨Nat.le_of_ble_eq_true rfl, Nat.le_of_ble_eq_true rfl, q⟩
set_option maxRecDepth 100000 in
theorem go_X8_toll_31 {nc : Nat} {C : tf_C} {Q : tf_Q} {h : LH} (hn : 270 ≤ nc) {x1 : Int32} {x2 : Int32} {y0 : Int32} (q : C 116 [.ref (15), .ref (0)] h (fun r g => lx_X8_toll nc C Q 43 [.ref (240), .int (x1), .int (x2), .int (y0)] [] g)) : lx_X8_toll nc C Q 31 [.ref (240), .int (x1), .int (x2), tf_z] [.int (y0)] h := by
  refine tf_LW_go ?_
  exact ⟨⟨(by first | rfl | trivial), (show 240 < nc by omega)⟩, ⟨⟨(by first | rfl | trivial), (show 240 < nc by omega)⟩, ⟨Nat.le_of_ble_eq_true rfl, Nat.le_of_ble_eq_true rfl, q⟩⟩⟩
set_option maxRecDepth 100000 in
theorem go_X8_toll_43 {nc : Nat} {C : tf_C} {Q : tf_Q} {h : LH} (hn : 270 ≤ nc) {x1 : Int32} {x2 : Int32} {x3 : Int32} (q : (vp_in x1 7) ∧ (vp_in x1 7) ∧ (vp_in x2 7) ∧ (vp_in x2 7) ∧ C 128 [.ref (15), .int (1)] (tf_up (tf_up h.1 16 (x1 : Int32).toNatClampNeg ((h.1 16 (x1 : Int32).toNatClampNeg) + 1)) 16 (x2 : Int32).toNatClampNeg (((tf_up h.1 16 (x1 : Int32).toNatClampNeg ((h.1 16 (x1 : Int32).toNatClampNeg) + 1)) 16 (x2 : Int32).toNatClampNeg) - 1), h.2) (fun r g => lx_X8_toll nc C Q 77 [.ref (240), .int (x1), .int (x2), .int (x3)] [] g)) : lx_X8_toll nc C Q 43 [.ref (240), .int (x1), .int (x2), .int (x3)] [] h := by
  refine tf_LW_go ?_
  exact ⟨⟨(by first | rfl | trivial), (show 240 < nc by omega)⟩, ⟨⟨(by first | rfl | trivial), (show 15 < nc by omega)⟩, ⟨⟨(by first | rfl | trivial), (show 16 < nc by omega), q.1⟩, ⟨⟨(by first | rfl | trivial), (show 16 < nc by omega), q.2.1⟩, ⟨⟨(by first | rfl | trivial), (show 240 < nc by omega)⟩, ⟨⟨(by first | rfl | trivial), (show 15 < nc by omega)⟩, ⟨⟨(by first | rfl | trivial), (show 16 < nc by omega), q.2.2.1⟩, ⟨⟨(by first | rfl | trivial), (show 16 < nc by omega), q.2.2.2.1⟩, ⟨⟨(by first | rfl | trivial), (show 240 < nc by omega)⟩, ⟨Nat.le_of_ble_eq_true rfl, Nat.le_of_ble_eq_true rfl, q.2.2.2.2⟩⟩⟩⟩⟩⟩⟩⟩⟩⟩
set_option maxRecDepth 100000 in
theorem go_X8_toll_77 {nc : Nat} {C : tf_C} {Q : tf_Q} {h : LH} (hn : 270 ≤ nc) {x1 : Int32} {x2 : Int32} {x3 : Int32} (q : C 217 [.ref (240)] h (fun r g => lx_X8_toll nc C Q 81 [.ref (240), .int (x1), .int (x2), .int (x3)] (r :: []) g)) : lx_X8_toll nc C Q 77 [.ref (240), .int (x1), .int (x2), .int (x3)] [] h := by
  refine tf_LW_go ?_
  exact ⟨Nat.le_of_ble_eq_true rfl, Nat.le_of_ble_eq_true rfl, q⟩
set_option maxRecDepth 100000 in
theorem go_X8_toll_81 {nc : Nat} {C : tf_C} {Q : tf_Q} {h : LH} (hn : 270 ≤ nc) {x1 : Int32} {x2 : Int32} {x3 : Int32} {y0 : Int32} (q : C 218 [.int (y0), .int (x3)] h (fun r g => lx_X8_toll nc C Q 85 [.ref (240), .int (x1), .int (x2), .int (x3)] (r :: []) g)) : lx_X8_toll nc C Q 81 [.ref (240), .int (x1), .int (x2), .int (x3)] [.int (y0)] h := by
  refine tf_LW_go ?_
  exact ⟨Nat.le_of_ble_eq_true rfl, Nat.le_of_ble_eq_true rfl, q⟩
set_option maxRecDepth 100000 in
theorem go_X8_toll_85 {nc : Nat} {C : tf_C} {Q : tf_Q} {h : LH} (hn : 270 ≤ nc) {x1 : Int32} {x2 : Int32} {x3 : Int32} {y0 : Int32} (q : Q (.int (y0)) h) : lx_X8_toll nc C Q 85 [.ref (240), .int (x1), .int (x2), .int (x3)] [.int (y0)] h := by
  refine tf_LW_go ?_
  exact ⟨(by first | trivial | rfl), q⟩
abbrev lx_X8_image (nc : Nat) (C : tf_C) (Q : tf_Q) : tf_X := tf_LW nc C (tf_F 6) (tf_M 6) (tf_I 6) (tf_Eh 211) 2 tb_X8_image Q
set_option maxRecDepth 100000 in
theorem go_X8_image_0 {nc : Nat} {C : tf_C} {Q : tf_Q} {h : LH} (hn : 270 ≤ nc) {x1 : Int32} (q : (x1 < (0 : Int32) → lx_X8_image nc C Q 9 [.ref (240), .int (x1)] [] h) ∧ (¬ x1 < (0 : Int32) → (x1 < (3 : Int32) → lx_X8_image nc C Q 11 [.ref (240), .int (x1)] [] h) ∧ (¬ x1 < (3 : Int32) → lx_X8_image nc C Q 9 [.ref (240), .int (x1)] [] h))) : lx_X8_image nc C Q 0 [.ref (240), .int (x1)] [] h := by
  refine tf_LW_go ?_
  exact ⟨q.1, fun c2 => ⟨(q.2 c2).1, fun c1 => ((q.2 c2).2 c1)⟩⟩
theorem en_X8_image {nc d : Nat} {Q : tf_Q} {h : LH} (hn : 270 ≤ nc) {x1 : Int32} (q : lx_X8_image nc (tf_Cd nc d) Q 0 [.ref (240), .int (x1)] [] h) : tf_Cd nc (d + 1) 211 [.ref (240), .int (x1)] h Q := by
  exact ⟨⟨Nat.le_of_ble_eq_true rfl, Or.inr ⟨rfl, (show 240 < nc by omega)⟩⟩, q⟩
set_option maxRecDepth 100000 in
theorem go_X8_image_9 {nc : Nat} {C : tf_C} {Q : tf_Q} {h : LH} (hn : 270 ≤ nc) {x1 : Int32} (q : Q (.int (0)) h) : lx_X8_image nc C Q 9 [.ref (240), .int (x1)] [] h := by
  refine tf_LW_go ?_
  exact ⟨(by first | rfl | trivial), q⟩
set_option maxRecDepth 100000 in
theorem go_X8_image_11 {nc : Nat} {C : tf_C} {Q : tf_Q} {h : LH} (hn : 270 ≤ nc) {x1 : Int32} (q : (vp_in x1 3) ∧ C 116 [.ref (tf_R 267 (x1 : Int32).toNatClampNeg), .ref (0)] h (fun r g => lx_X8_image nc C Q 24 [.ref (240), .int (x1)] [] g)) : lx_X8_image nc C Q 11 [.ref (240), .int (x1)] [] h := by
  refine tf_LW_go ?_
  exact ⟨⟨(by first | rfl | trivial), (show 240 < nc by omega)⟩, ⟨⟨(Or.inl (by first | rfl | trivial)), (show 267 < nc by omega), q.1⟩, ⟨⟨(by first | rfl | trivial), (show 240 < nc by omega)⟩, ⟨Nat.le_of_ble_eq_true rfl, Nat.le_of_ble_eq_true rfl, q.2⟩⟩⟩⟩
set_option maxRecDepth 100000 in
theorem go_X8_image_24 {nc : Nat} {C : tf_C} {Q : tf_Q} {h : LH} (hn : 270 ≤ nc) {x1 : Int32} (q : (vp_in x1 3) ∧ C 156 [.ref (tf_R 268 (x1 : Int32).toNatClampNeg), .ref (251)] h (fun r g => lx_X8_image nc C Q 37 [.ref (240), .int (x1)] [] g)) : lx_X8_image nc C Q 24 [.ref (240), .int (x1)] [] h := by
  refine tf_LW_go ?_
  exact ⟨⟨(by first | rfl | trivial), (show 240 < nc by omega)⟩, ⟨⟨(Or.inr (by first | rfl | trivial)), (show 268 < nc by omega), q.1⟩, ⟨⟨(by first | rfl | trivial), (show 240 < nc by omega)⟩, ⟨Nat.le_of_ble_eq_true rfl, Nat.le_of_ble_eq_true rfl, q.2⟩⟩⟩⟩
set_option maxRecDepth 100000 in
theorem go_X8_image_37 {nc : Nat} {C : tf_C} {Q : tf_Q} {h : LH} (hn : 270 ≤ nc) {x1 : Int32} (q : (vp_in x1 3) ∧ Q (.int (1)) (tf_up h.1 269 (x1 : Int32).toNatClampNeg (vp_nar .boolean 1), h.2)) : lx_X8_image nc C Q 37 [.ref (240), .int (x1)] [] h := by
  refine tf_LW_go ?_
  exact ⟨⟨(by first | rfl | trivial), (show 240 < nc by omega)⟩, ⟨⟨(show 269 < nc by omega), q.1⟩, Or.inr ⟨(by first | rfl | trivial), ⟨(by first | rfl | trivial), q.2⟩⟩⟩⟩
abbrev lx_X8_again (nc : Nat) (C : tf_C) (Q : tf_Q) : tf_X := tf_LW nc C (tf_F 6) (tf_M 6) (tf_I 6) (tf_Eh 212) 2 tb_X8_again Q
set_option maxRecDepth 100000 in
theorem go_X8_again_0 {nc : Nat} {C : tf_C} {Q : tf_Q} {h : LH} (hn : 270 ≤ nc) {x1 : Int32} (q : C 213 [.ref (240), .int (x1)] h (fun r g => lx_X8_again nc C Q 5 [.ref (240), .int (x1)] (r :: []) g)) : lx_X8_again nc C Q 0 [.ref (240), .int (x1)] [] h := by
  refine tf_LW_go ?_
  exact ⟨Nat.le_of_ble_eq_true rfl, Nat.le_of_ble_eq_true rfl, q⟩
theorem en_X8_again {nc d : Nat} {Q : tf_Q} {h : LH} (hn : 270 ≤ nc) {x1 : Int32} (q : lx_X8_again nc (tf_Cd nc d) Q 0 [.ref (240), .int (x1)] [] h) : tf_Cd nc (d + 1) 212 [.ref (240), .int (x1)] h Q := by
  exact ⟨⟨Nat.le_of_ble_eq_true rfl, Or.inr ⟨rfl, (show 240 < nc by omega)⟩⟩, q⟩
set_option maxRecDepth 100000 in
theorem go_X8_again_5 {nc : Nat} {C : tf_C} {Q : tf_Q} {h : LH} (hn : 270 ≤ nc) {x1 : Int32} {y0 : Int32} (q : (y0 = (0 : Int32) → Q (.int (0)) h) ∧ (¬ y0 = (0 : Int32) → lx_X8_again nc C Q 10 [.ref (240), .int (x1)] [] h)) : lx_X8_again nc C Q 5 [.ref (240), .int (x1)] [.int (y0)] h := by
  refine tf_LW_go ?_
  exact ⟨fun c1 => ⟨(by first | rfl | trivial), (q.1 c1)⟩, q.2⟩
set_option maxRecDepth 100000 in
theorem go_X8_again_10 {nc : Nat} {C : tf_C} {Q : tf_Q} {h : LH} (hn : 270 ≤ nc) {x1 : Int32} (q : (vp_in x1 3) ∧ C 116 [.ref (0), .ref (tf_R 267 (x1 : Int32).toNatClampNeg)] h (fun r g => lx_X8_again nc C Q 23 [.ref (240), .int (x1)] [] g)) : lx_X8_again nc C Q 10 [.ref (240), .int (x1)] [] h := by
  refine tf_LW_go ?_
  exact ⟨⟨(by first | rfl | trivial), (show 240 < nc by omega)⟩, ⟨⟨(by first | rfl | trivial), (show 240 < nc by omega)⟩, ⟨⟨(Or.inl (by first | rfl | trivial)), (show 267 < nc by omega), q.1⟩, ⟨Nat.le_of_ble_eq_true rfl, Nat.le_of_ble_eq_true rfl, q.2⟩⟩⟩⟩
set_option maxRecDepth 100000 in
theorem go_X8_again_23 {nc : Nat} {C : tf_C} {Q : tf_Q} {h : LH} (hn : 270 ≤ nc) {x1 : Int32} (q : (vp_in x1 3) ∧ C 156 [.ref (251), .ref (tf_R 268 (x1 : Int32).toNatClampNeg)] h (fun r g => lx_X8_again nc C Q 36 [.ref (240), .int (x1)] [] g)) : lx_X8_again nc C Q 23 [.ref (240), .int (x1)] [] h := by
  refine tf_LW_go ?_
  exact ⟨⟨(by first | rfl | trivial), (show 240 < nc by omega)⟩, ⟨⟨(by first | rfl | trivial), (show 240 < nc by omega)⟩, ⟨⟨(Or.inr (by first | rfl | trivial)), (show 268 < nc by omega), q.1⟩, ⟨Nat.le_of_ble_eq_true rfl, Nat.le_of_ble_eq_true rfl, q.2⟩⟩⟩⟩
set_option maxRecDepth 100000 in
theorem go_X8_again_36 {nc : Nat} {C : tf_C} {Q : tf_Q} {h : LH} (hn : 270 ≤ nc) {x1 : Int32} (q : Q (.int (1)) (tf_up h.1 240 9 0, h.2)) : lx_X8_again nc C Q 36 [.ref (240), .int (x1)] [] h := by
  refine tf_LW_go ?_
  exact ⟨⟨(by first | rfl | trivial), (show 240 < nc by omega), (by first | rfl | trivial)⟩, ⟨(by first | rfl | trivial), q⟩⟩
abbrev lx_X8_hasImage (nc : Nat) (C : tf_C) (Q : tf_Q) : tf_X := tf_LW nc C (tf_F 6) (tf_M 6) (tf_I 6) (tf_Eh 213) 2 tb_X8_hasImage Q
set_option maxRecDepth 100000 in
theorem go_X8_hasImage_0 {nc : Nat} {C : tf_C} {Q : tf_Q} {h : LH} (hn : 270 ≤ nc) {x1 : Int32} (q : (x1 < (0 : Int32) → lx_X8_hasImage nc C Q 22 [.ref (240), .int (x1)] [] h) ∧ (¬ x1 < (0 : Int32) → ((3 : Int32) ≤ x1 → lx_X8_hasImage nc C Q 22 [.ref (240), .int (x1)] [] h) ∧ (¬ (3 : Int32) ≤ x1 → (vp_in x1 3) ∧ ((h.1 269 (x1 : Int32).toNatClampNeg) = (0 : Int32) → lx_X8_hasImage nc C Q 22 [.ref (240), .int (x1)] [] h) ∧ (¬ (h.1 269 (x1 : Int32).toNatClampNeg) = (0 : Int32) → lx_X8_hasImage nc C Q 23 [.ref (240), .int (x1)] [.int (1)] h)))) : lx_X8_hasImage nc C Q 0 [.ref (240), .int (x1)] [] h := by
  refine tf_LW_go ?_
  exact ⟨q.1, fun c3 => ⟨(q.2 c3).1, fun c2 => ⟨⟨(by first | rfl | trivial), (show 240 < nc by omega)⟩, ⟨⟨(Or.inr (by first | rfl | trivial)), (show 269 < nc by omega), ((q.2 c3).2 c2).1⟩, ⟨((q.2 c3).2 c2).2.1, fun c1 => (((q.2 c3).2 c2).2.2 c1)⟩⟩⟩⟩⟩
theorem en_X8_hasImage {nc d : Nat} {Q : tf_Q} {h : LH} (hn : 270 ≤ nc) {x1 : Int32} (q : lx_X8_hasImage nc (tf_Cd nc d) Q 0 [.ref (240), .int (x1)] [] h) : tf_Cd nc (d + 1) 213 [.ref (240), .int (x1)] h Q := by
  exact ⟨⟨Nat.le_of_ble_eq_true rfl, Or.inr ⟨rfl, (show 240 < nc by omega)⟩⟩, q⟩
set_option maxRecDepth 100000 in
theorem go_X8_hasImage_22 {nc : Nat} {C : tf_C} {Q : tf_Q} {h : LH} (hn : 270 ≤ nc) {x1 : Int32} (q : lx_X8_hasImage nc C Q 23 [.ref (240), .int (x1)] [.int (0)] h) : lx_X8_hasImage nc C Q 22 [.ref (240), .int (x1)] [] h := by
  refine tf_LW_go ?_
  exact q
set_option maxRecDepth 100000 in
theorem go_X8_hasImage_23 {nc : Nat} {C : tf_C} {Q : tf_Q} {h : LH} (hn : 270 ≤ nc) {x1 : Int32} {y0 : Int32} (q : (vp_nar .boolean (y0) = (y0)) ∧ Q (.int (y0)) h) : lx_X8_hasImage nc C Q 23 [.ref (240), .int (x1)] [.int (y0)] h := by
  refine tf_LW_go ?_
  exact q
abbrev lx_X8_takeFault (nc : Nat) (C : tf_C) (Q : tf_Q) : tf_X := tf_LW nc C (tf_F 6) (tf_M 6) (tf_I 6) (tf_Eh 214) 0 tb_X8_takeFault Q
set_option maxRecDepth 100000 in
theorem go_X8_takeFault_0 {nc : Nat} {C : tf_C} {Q : tf_Q} {h : LH} (hn : 270 ≤ nc) (q : Q tf_z (tf_up (tf_up (tf_up h.1 251 1 0) 251 2 ((tf_up h.1 251 1 0) 259 1)) 251 3 ((tf_up (tf_up h.1 251 1 0) 251 2 ((tf_up h.1 251 1 0) 259 1)) 259 2), h.2)) : lx_X8_takeFault nc C Q 0 [.ref (240)] [] h := by
  refine tf_LW_go ?_
  exact ⟨⟨(by first | rfl | trivial), (show 240 < nc by omega)⟩, ⟨⟨(by first | rfl | trivial), (show 251 < nc by omega), (by first | rfl | trivial)⟩, ⟨⟨(by first | rfl | trivial), (show 240 < nc by omega)⟩, ⟨⟨(by first | rfl | trivial), (show 240 < nc by omega)⟩, ⟨⟨(by first | rfl | trivial), (show 259 < nc by omega)⟩, ⟨⟨(by first | rfl | trivial), (show 251 < nc by omega), (by first | rfl | trivial)⟩, ⟨⟨(by first | rfl | trivial), (show 240 < nc by omega)⟩, ⟨⟨(by first | rfl | trivial), (show 240 < nc by omega)⟩, ⟨⟨(by first | rfl | trivial), (show 259 < nc by omega)⟩, ⟨⟨(by first | rfl | trivial), (show 251 < nc by omega), (by first | rfl | trivial)⟩, ⟨(by first | rfl | trivial), q⟩⟩⟩⟩⟩⟩⟩⟩⟩⟩⟩
theorem en_X8_takeFault {nc d : Nat} {Q : tf_Q} {h : LH} (hn : 270 ≤ nc) (q : lx_X8_takeFault nc (tf_Cd nc d) Q 0 [.ref (240)] [] h) : tf_Cd nc (d + 1) 214 [.ref (240)] h Q := by
  exact ⟨⟨Nat.le_of_ble_eq_true rfl, Or.inr ⟨rfl, (show 240 < nc by omega)⟩⟩, q⟩
abbrev lx_X8_saveAhead (nc : Nat) (C : tf_C) (Q : tf_Q) : tf_X := tf_LW nc C (tf_F 6) (tf_M 6) (tf_I 6) (tf_Eh 215) 0 tb_X8_saveAhead Q
set_option maxRecDepth 100000 in
theorem go_X8_saveAhead_0 {nc : Nat} {C : tf_C} {Q : tf_Q} {h : LH} (hn : 270 ≤ nc) (q : (vp_in (h.1 240 8) 11) ∧ C 116 [.ref (tf_R 266 (h.1 240 8 : Int32).toNatClampNeg), .ref (0)] h (fun r g => lx_X8_saveAhead nc C Q 16 [.ref (240)] [] g)) : lx_X8_saveAhead nc C Q 0 [.ref (240)] [] h := by
  refine tf_LW_go ?_
  exact ⟨⟨(by first | rfl | trivial), (show 240 < nc by omega)⟩, ⟨⟨(by first | rfl | trivial), (show 240 < nc by omega)⟩, ⟨⟨(Or.inl (by first | rfl | trivial)), (show 266 < nc by omega), q.1⟩, ⟨⟨(by first | rfl | trivial), (show 240 < nc by omega)⟩, ⟨Nat.le_of_ble_eq_true rfl, Nat.le_of_ble_eq_true rfl, q.2⟩⟩⟩⟩⟩
theorem en_X8_saveAhead {nc d : Nat} {Q : tf_Q} {h : LH} (hn : 270 ≤ nc) (q : lx_X8_saveAhead nc (tf_Cd nc d) Q 0 [.ref (240)] [] h) : tf_Cd nc (d + 1) 215 [.ref (240)] h Q := by
  exact ⟨⟨Nat.le_of_ble_eq_true rfl, Or.inr ⟨rfl, (show 240 < nc by omega)⟩⟩, q⟩
set_option maxRecDepth 100000 in
theorem go_X8_saveAhead_16 {nc : Nat} {C : tf_C} {Q : tf_Q} {h : LH} (hn : 270 ≤ nc) (q : Q tf_z h) : lx_X8_saveAhead nc C Q 16 [.ref (240)] [] h := by
  refine tf_LW_go ?_
  exact ⟨(by first | rfl | trivial), q⟩
abbrev lx_X8_countAct (nc : Nat) (C : tf_C) (Q : tf_Q) : tf_X := tf_LW nc C (tf_F 6) (tf_M 6) (tf_I 6) (tf_Eh 216) 2 tb_X8_countAct Q
set_option maxRecDepth 100000 in
theorem go_X8_countAct_0 {nc : Nat} {C : tf_C} {Q : tf_Q} {h : LH} (hn : 270 ≤ nc) {x1 : Int32} (q : (x1 = (0 : Int32) → lx_X8_countAct nc C Q 42 [.ref (240), .int (x1)] [] h) ∧ (¬ x1 = (0 : Int32) → ((h.1 240 8) = (10 : Int32) → lx_X8_countAct nc C Q 24 [.ref (240), .int (x1)] [.int (0), .ref (240)] h) ∧ (¬ (h.1 240 8) = (10 : Int32) → lx_X8_countAct nc C Q 18 [.ref (240), .int (x1)] [.ref (240)] h))) : lx_X8_countAct nc C Q 0 [.ref (240), .int (x1)] [] h := by
  refine tf_LW_go ?_
  exact ⟨q.1, fun c2 => ⟨⟨(by first | rfl | trivial), (show 240 < nc by omega)⟩, ⟨fun c1 => ((q.2 c2).1 c1), (q.2 c2).2⟩⟩⟩
theorem en_X8_countAct {nc d : Nat} {Q : tf_Q} {h : LH} (hn : 270 ≤ nc) {x1 : Int32} (q : lx_X8_countAct nc (tf_Cd nc d) Q 0 [.ref (240), .int (x1)] [] h) : tf_Cd nc (d + 1) 216 [.ref (240), .int (x1)] h Q := by
  exact ⟨⟨Nat.le_of_ble_eq_true rfl, Or.inr ⟨rfl, (show 240 < nc by omega)⟩⟩, q⟩
set_option maxRecDepth 100000 in
theorem go_X8_countAct_18 {nc : Nat} {C : tf_C} {Q : tf_Q} {h : LH} (hn : 270 ≤ nc) {x1 : Int32} (q : lx_X8_countAct nc C Q 24 [.ref (240), .int (x1)] [.int ((h.1 240 8) + 1), .ref (240)] h) : lx_X8_countAct nc C Q 18 [.ref (240), .int (x1)] [.ref (240)] h := by
  refine tf_LW_go ?_
  exact ⟨⟨(by first | rfl | trivial), (show 240 < nc by omega)⟩, q⟩
set_option maxRecDepth 100000 in
theorem go_X8_countAct_24 {nc : Nat} {C : tf_C} {Q : tf_Q} {h : LH} (hn : 270 ≤ nc) {x1 : Int32} {y1 : Int32} (q : C 1002 [.int (((tf_up h.1 240 8 y1) 240 9) + 1), .int (10)] (tf_up h.1 240 8 y1, h.2) (fun r g => lx_X8_countAct nc C Q 39 [.ref (240), .int (x1)] (r :: [.ref (240)]) g)) : lx_X8_countAct nc C Q 24 [.ref (240), .int (x1)] [.int (y1), .ref (240)] h := by
  refine tf_LW_go ?_
  exact ⟨⟨(by first | rfl | trivial), (show 240 < nc by omega), (by first | rfl | trivial)⟩, ⟨⟨(by first | rfl | trivial), (show 240 < nc by omega)⟩, ⟨Nat.le_of_ble_eq_true rfl, Nat.le_of_ble_eq_true rfl, q⟩⟩⟩
set_option maxRecDepth 100000 in
theorem go_X8_countAct_39 {nc : Nat} {C : tf_C} {Q : tf_Q} {h : LH} (hn : 270 ≤ nc) {x1 : Int32} {y1 : Int32} (q : lx_X8_countAct nc C Q 42 [.ref (240), .int (x1)] [] (tf_up h.1 240 9 y1, h.2)) : lx_X8_countAct nc C Q 39 [.ref (240), .int (x1)] [.int (y1), .ref (240)] h := by
  refine tf_LW_go ?_
  exact ⟨⟨(by first | rfl | trivial), (show 240 < nc by omega), (by first | rfl | trivial)⟩, q⟩
set_option maxRecDepth 100000 in
theorem go_X8_countAct_42 {nc : Nat} {C : tf_C} {Q : tf_Q} {h : LH} (hn : 270 ≤ nc) {x1 : Int32} (q : (vp_nar .boolean (x1) = (x1)) ∧ Q (.int (x1)) h) : lx_X8_countAct nc C Q 42 [.ref (240), .int (x1)] [] h := by
  refine tf_LW_go ?_
  exact q
abbrev lx_X8_leastOfTrial (nc : Nat) (C : tf_C) (Q : tf_Q) : tf_X := tf_LW nc C (tf_F 6) (tf_M 6) (tf_I 6) (tf_Eh 217) 1 tb_X8_leastOfTrial Q
set_option maxRecDepth 100000 in
theorem go_X8_leastOfTrial_0 {nc : Nat} {C : tf_C} {Q : tf_Q} {h : LH} (hn : 270 ≤ nc) (q : C 160 [.ref (241), .ref (15), .int (1), .int (1000000)] h (fun r g => lx_X8_leastOfTrial nc C Q 15 [.ref (240)] (r :: []) g)) : lx_X8_leastOfTrial nc C Q 0 [.ref (240)] [] h := by
  refine tf_LW_go ?_
  exact ⟨⟨(by first | rfl | trivial), (show 240 < nc by omega)⟩, ⟨⟨(by first | rfl | trivial), (show 240 < nc by omega)⟩, ⟨Nat.le_of_ble_eq_true rfl, Nat.le_of_ble_eq_true rfl, q⟩⟩⟩
theorem en_X8_leastOfTrial {nc d : Nat} {Q : tf_Q} {h : LH} (hn : 270 ≤ nc) (q : lx_X8_leastOfTrial nc (tf_Cd nc d) Q 0 [.ref (240)] [] h) : tf_Cd nc (d + 1) 217 [.ref (240)] h Q := by
  exact ⟨⟨Nat.le_of_ble_eq_true rfl, Or.inr ⟨rfl, (show 240 < nc by omega)⟩⟩, q⟩
set_option maxRecDepth 100000 in
theorem go_X8_leastOfTrial_15 {nc : Nat} {C : tf_C} {Q : tf_Q} {h : LH} (hn : 270 ≤ nc) {y0 : Int32} (q : C 144 [.ref (15)] h (fun r g => lx_X8_leastOfTrial nc C Q 23 [.ref (240)] (r :: []) g)) : lx_X8_leastOfTrial nc C Q 15 [.ref (240)] [.int (y0)] h := by
  refine tf_LW_go ?_
  exact ⟨⟨(by first | rfl | trivial), (show 240 < nc by omega)⟩, ⟨Nat.le_of_ble_eq_true rfl, Nat.le_of_ble_eq_true rfl, q⟩⟩
set_option maxRecDepth 100000 in
theorem go_X8_leastOfTrial_23 {nc : Nat} {C : tf_C} {Q : tf_Q} {h : LH} (hn : 270 ≤ nc) {y0 : Int32} (q : (y0 = (0 : Int32) → C 145 [.ref (15)] h (fun r g => lx_X8_leastOfTrial nc C Q 33 [.ref (240)] (r :: []) g)) ∧ (¬ y0 = (0 : Int32) → lx_X8_leastOfTrial nc C Q 36 [.ref (240)] [] h)) : lx_X8_leastOfTrial nc C Q 23 [.ref (240)] [.int (y0)] h := by
  refine tf_LW_go ?_
  exact ⟨fun c1 => ⟨⟨(by first | rfl | trivial), (show 240 < nc by omega)⟩, ⟨Nat.le_of_ble_eq_true rfl, Nat.le_of_ble_eq_true rfl, (q.1 c1)⟩⟩, q.2⟩
set_option maxRecDepth 100000 in
theorem go_X8_leastOfTrial_33 {nc : Nat} {C : tf_C} {Q : tf_Q} {h : LH} (hn : 270 ≤ nc) {y0 : Int32} (q : lx_X8_leastOfTrial nc C Q 39 [.ref (240)] [.int (y0)] h) : lx_X8_leastOfTrial nc C Q 33 [.ref (240)] [.int (y0)] h := by
  refine tf_LW_go ?_
  exact q
set_option maxRecDepth 100000 in
theorem go_X8_leastOfTrial_36 {nc : Nat} {C : tf_C} {Q : tf_Q} {h : LH} (hn : 270 ≤ nc) (q : lx_X8_leastOfTrial nc C Q 39 [.ref (240)] [.int ((-1000000))] h) : lx_X8_leastOfTrial nc C Q 36 [.ref (240)] [] h := by
  refine tf_LW_go ?_
  exact q
set_option maxRecDepth 100000 in
theorem go_X8_leastOfTrial_39 {nc : Nat} {C : tf_C} {Q : tf_Q} {h : LH} (hn : 270 ≤ nc) {y0 : Int32} (q : Q (.int (y0)) h) : lx_X8_leastOfTrial nc C Q 39 [.ref (240)] [.int (y0)] h := by
  refine tf_LW_go ?_
  exact ⟨(by first | trivial | rfl), q⟩
abbrev lx_X8_less (nc : Nat) (C : tf_C) (Q : tf_Q) : tf_X := tf_LW nc C (tf_F 6) (tf_M 6) (tf_I 6) (tf_Eh 218) 1 tb_X8_less Q
set_option maxRecDepth 100000 in
theorem go_X8_less_0 {nc : Nat} {C : tf_C} {Q : tf_Q} {h : LH} (hn : 270 ≤ nc) {x0 : Int32} {x1 : Int32} (q : (x1 = ((-1000000) : Int32) → lx_X8_less nc C Q 14 [.int (x0), .int (x1)] [] h) ∧ (¬ x1 = ((-1000000) : Int32) → (x0 = ((-1000000) : Int32) → lx_X8_less nc C Q 14 [.int (x0), .int (x1)] [] h) ∧ (¬ x0 = ((-1000000) : Int32) → lx_X8_less nc C Q 20 [.int (x0), .int (x1)] [] h))) : lx_X8_less nc C Q 0 [.int (x0), .int (x1)] [] h := by
  refine tf_LW_go ?_
  exact ⟨q.1, fun c2 => ⟨fun c1 => ((q.2 c2).1 c1), (q.2 c2).2⟩⟩
theorem en_X8_less {nc d : Nat} {Q : tf_Q} {h : LH} (hn : 270 ≤ nc) {x0 : Int32} {x1 : Int32} (q : lx_X8_less nc (tf_Cd nc d) Q 0 [.int (x0), .int (x1)] [] h) : tf_Cd nc (d + 1) 218 [.int (x0), .int (x1)] h Q := by
  exact ⟨⟨Nat.le_of_ble_eq_true rfl, Or.inl rfl⟩, q⟩
set_option maxRecDepth 100000 in
theorem go_X8_less_14 {nc : Nat} {C : tf_C} {Q : tf_Q} {h : LH} (hn : 270 ≤ nc) {x0 : Int32} {x1 : Int32} (q : lx_X8_less nc C Q 23 [.int (x0), .int (x1)] [.int ((-1000000))] h) : lx_X8_less nc C Q 14 [.int (x0), .int (x1)] [] h := by
  refine tf_LW_go ?_
  exact q
set_option maxRecDepth 100000 in
theorem go_X8_less_20 {nc : Nat} {C : tf_C} {Q : tf_Q} {h : LH} (hn : 270 ≤ nc) {x0 : Int32} {x1 : Int32} (q : lx_X8_less nc C Q 23 [.int (x0), .int (x1)] [.int (x0 - x1)] h) : lx_X8_less nc C Q 20 [.int (x0), .int (x1)] [] h := by
  refine tf_LW_go ?_
  exact q
set_option maxRecDepth 100000 in
theorem go_X8_less_23 {nc : Nat} {C : tf_C} {Q : tf_Q} {h : LH} (hn : 270 ≤ nc) {x0 : Int32} {x1 : Int32} {y0 : Int32} (q : Q (.int (y0)) h) : lx_X8_less nc C Q 23 [.int (x0), .int (x1)] [.int (y0)] h := by
  refine tf_LW_go ?_
  exact ⟨(by first | trivial | rfl), q⟩
abbrev lx_X8_byteOf (nc : Nat) (C : tf_C) (Q : tf_Q) : tf_X := tf_LW nc C (tf_F 6) (tf_M 6) (tf_I 6) (tf_Eh 219) 1 tb_X8_byteOf Q
set_option maxRecDepth 100000 in
theorem go_X8_byteOf_0 {nc : Nat} {C : tf_C} {Q : tf_Q} {h : LH} (hn : 270 ≤ nc) {x0 : Int64} {x2 : Int32} (q : Q (.int (((((x0 : Int64).toUInt64 >>> ((56 - (8 * x2) : Int32).toInt64.toUInt64 &&& Int64.toUInt64 63)).toInt64 : Int64).toInt32) &&& 255)) h) : lx_X8_byteOf nc C Q 0 [.long (x0), tf_z, .int (x2)] [] h := by
  refine tf_LW_go ?_
  exact ⟨(by first | trivial | rfl), q⟩
theorem en_X8_byteOf {nc d : Nat} {Q : tf_Q} {h : LH} (hn : 270 ≤ nc) {x0 : Int64} {x2 : Int32} (q : lx_X8_byteOf nc (tf_Cd nc d) Q 0 [.long (x0), tf_z, .int (x2)] [] h) : tf_Cd nc (d + 1) 219 [.long (x0), .int (x2)] h Q := by
  exact ⟨⟨Nat.le_of_ble_eq_true rfl, Or.inl rfl⟩, q⟩
abbrev lx_X8_toldEdge (nc : Nat) (C : tf_C) (Q : tf_Q) : tf_X := tf_LW nc C (tf_F 6) (tf_M 6) (tf_I 6) (tf_Eh 220) 1 tb_X8_toldEdge Q
set_option maxRecDepth 100000 in
theorem go_X8_toldEdge_0 {nc : Nat} {C : tf_C} {Q : tf_Q} {h : LH} (hn : 270 ≤ nc) {x0 : Int32} (q : ((14 : Int32) ≤ x0 → lx_X8_toldEdge nc C Q 10 [.int (x0)] [] h) ∧ (¬ (14 : Int32) ≤ x0 → lx_X8_toldEdge nc C Q 17 [.int (x0)] [.int (x0)] h)) : lx_X8_toldEdge nc C Q 0 [.int (x0)] [] h := by
  refine tf_LW_go ?_
  exact ⟨q.1, fun c1 => (q.2 c1)⟩
theorem en_X8_toldEdge {nc d : Nat} {Q : tf_Q} {h : LH} (hn : 270 ≤ nc) {x0 : Int32} (q : lx_X8_toldEdge nc (tf_Cd nc d) Q 0 [.int (x0)] [] h) : tf_Cd nc (d + 1) 220 [.int (x0)] h Q := by
  exact ⟨⟨Nat.le_of_ble_eq_true rfl, Or.inl rfl⟩, q⟩
set_option maxRecDepth 100000 in
theorem go_X8_toldEdge_10 {nc : Nat} {C : tf_C} {Q : tf_Q} {h : LH} (hn : 270 ≤ nc) {x0 : Int32} (q : lx_X8_toldEdge nc C Q 17 [.int (x0)] [.int ((100 + x0) - 14)] h) : lx_X8_toldEdge nc C Q 10 [.int (x0)] [] h := by
  refine tf_LW_go ?_
  exact q
set_option maxRecDepth 100000 in
theorem go_X8_toldEdge_17 {nc : Nat} {C : tf_C} {Q : tf_Q} {h : LH} (hn : 270 ≤ nc) {x0 : Int32} {y0 : Int32} (q : Q (.int (y0)) h) : lx_X8_toldEdge nc C Q 17 [.int (x0)] [.int (y0)] h := by
  refine tf_LW_go ?_
  exact ⟨(by first | trivial | rfl), q⟩
abbrev lx_X8_isRule (nc : Nat) (C : tf_C) (Q : tf_Q) : tf_X := tf_LW nc C (tf_F 6) (tf_M 6) (tf_I 6) (tf_Eh 221) 2 tb_X8_isRule Q
set_option maxRecDepth 100000 in
theorem go_X8_isRule_0 {nc : Nat} {C : tf_C} {Q : tf_Q} {h : LH} (hn : 270 ≤ nc) {x0 : Int32} (q : (x0 < (0 : Int32) → lx_X8_isRule nc C Q 13 [.int (x0)] [] h) ∧ (¬ x0 < (0 : Int32) → ((2 : Int32) < x0 → lx_X8_isRule nc C Q 13 [.int (x0)] [] h) ∧ (¬ (2 : Int32) < x0 → lx_X8_isRule nc C Q 14 [.int (x0)] [.int (1)] h))) : lx_X8_isRule nc C Q 0 [.int (x0)] [] h := by
  refine tf_LW_go ?_
  exact ⟨q.1, fun c2 => ⟨(q.2 c2).1, fun c1 => ((q.2 c2).2 c1)⟩⟩
theorem en_X8_isRule {nc d : Nat} {Q : tf_Q} {h : LH} (hn : 270 ≤ nc) {x0 : Int32} (q : lx_X8_isRule nc (tf_Cd nc d) Q 0 [.int (x0)] [] h) : tf_Cd nc (d + 1) 221 [.int (x0)] h Q := by
  exact ⟨⟨Nat.le_of_ble_eq_true rfl, Or.inl rfl⟩, q⟩
set_option maxRecDepth 100000 in
theorem go_X8_isRule_13 {nc : Nat} {C : tf_C} {Q : tf_Q} {h : LH} (hn : 270 ≤ nc) {x0 : Int32} (q : lx_X8_isRule nc C Q 14 [.int (x0)] [.int (0)] h) : lx_X8_isRule nc C Q 13 [.int (x0)] [] h := by
  refine tf_LW_go ?_
  exact q
set_option maxRecDepth 100000 in
theorem go_X8_isRule_14 {nc : Nat} {C : tf_C} {Q : tf_Q} {h : LH} (hn : 270 ≤ nc) {x0 : Int32} {y0 : Int32} (q : (vp_nar .boolean (y0) = (y0)) ∧ Q (.int (y0)) h) : lx_X8_isRule nc C Q 14 [.int (x0)] [.int (y0)] h := by
  refine tf_LW_go ?_
  exact q
abbrev lx_J6_bitCount_0f7a4 (nc : Nat) (C : tf_C) (Q : tf_Q) : tf_X := tf_LW nc C (tf_F 9) (tf_M 9) (tf_I 9) (tf_Eh 243) 1 tb_J6_bitCount_0f7a4 Q
set_option maxRecDepth 100000 in
theorem go_J6_bitCount_0f7a4_0 {nc : Nat} {C : tf_C} {Q : tf_Q} {h : LH} {x0 : Int32} (q : Q (.int ((((((((x0 - ((((x0 : Int32).toUInt32 >>> ((1 : Int32).toUInt32 &&& Int32.toUInt32 31)).toInt32) &&& 1431655765)) &&& 858993459) + ((((x0 - ((((x0 : Int32).toUInt32 >>> ((1 : Int32).toUInt32 &&& Int32.toUInt32 31)).toInt32) &&& 1431655765) : Int32).toUInt32 >>> ((2 : Int32).toUInt32 &&& Int32.toUInt32 31)).toInt32) &&& 858993459)) + (((((x0 - ((((x0 : Int32).toUInt32 >>> ((1 : Int32).toUInt32 &&& Int32.toUInt32 31)).toInt32) &&& 1431655765)) &&& 858993459) + ((((x0 - ((((x0 : Int32).toUInt32 >>> ((1 : Int32).toUInt32 &&& Int32.toUInt32 31)).toInt32) &&& 1431655765) : Int32).toUInt32 >>> ((2 : Int32).toUInt32 &&& Int32.toUInt32 31)).toInt32) &&& 858993459) : Int32).toUInt32 >>> ((4 : Int32).toUInt32 &&& Int32.toUInt32 31)).toInt32)) &&& 252645135) + (((((((x0 - ((((x0 : Int32).toUInt32 >>> ((1 : Int32).toUInt32 &&& Int32.toUInt32 31)).toInt32) &&& 1431655765)) &&& 858993459) + ((((x0 - ((((x0 : Int32).toUInt32 >>> ((1 : Int32).toUInt32 &&& Int32.toUInt32 31)).toInt32) &&& 1431655765) : Int32).toUInt32 >>> ((2 : Int32).toUInt32 &&& Int32.toUInt32 31)).toInt32) &&& 858993459)) + (((((x0 - ((((x0 : Int32).toUInt32 >>> ((1 : Int32).toUInt32 &&& Int32.toUInt32 31)).toInt32) &&& 1431655765)) &&& 858993459) + ((((x0 - ((((x0 : Int32).toUInt32 >>> ((1 : Int32).toUInt32 &&& Int32.toUInt32 31)).toInt32) &&& 1431655765) : Int32).toUInt32 >>> ((2 : Int32).toUInt32 &&& Int32.toUInt32 31)).toInt32) &&& 858993459) : Int32).toUInt32 >>> ((4 : Int32).toUInt32 &&& Int32.toUInt32 31)).toInt32)) &&& 252645135 : Int32).toUInt32 >>> ((8 : Int32).toUInt32 &&& Int32.toUInt32 31)).toInt32)) + ((((((((x0 - ((((x0 : Int32).toUInt32 >>> ((1 : Int32).toUInt32 &&& Int32.toUInt32 31)).toInt32) &&& 1431655765)) &&& 858993459) + ((((x0 - ((((x0 : Int32).toUInt32 >>> ((1 : Int32).toUInt32 &&& Int32.toUInt32 31)).toInt32) &&& 1431655765) : Int32).toUInt32 >>> ((2 : Int32).toUInt32 &&& Int32.toUInt32 31)).toInt32) &&& 858993459)) + (((((x0 - ((((x0 : Int32).toUInt32 >>> ((1 : Int32).toUInt32 &&& Int32.toUInt32 31)).toInt32) &&& 1431655765)) &&& 858993459) + ((((x0 - ((((x0 : Int32).toUInt32 >>> ((1 : Int32).toUInt32 &&& Int32.toUInt32 31)).toInt32) &&& 1431655765) : Int32).toUInt32 >>> ((2 : Int32).toUInt32 &&& Int32.toUInt32 31)).toInt32) &&& 858993459) : Int32).toUInt32 >>> ((4 : Int32).toUInt32 &&& Int32.toUInt32 31)).toInt32)) &&& 252645135) + (((((((x0 - ((((x0 : Int32).toUInt32 >>> ((1 : Int32).toUInt32 &&& Int32.toUInt32 31)).toInt32) &&& 1431655765)) &&& 858993459) + ((((x0 - ((((x0 : Int32).toUInt32 >>> ((1 : Int32).toUInt32 &&& Int32.toUInt32 31)).toInt32) &&& 1431655765) : Int32).toUInt32 >>> ((2 : Int32).toUInt32 &&& Int32.toUInt32 31)).toInt32) &&& 858993459)) + (((((x0 - ((((x0 : Int32).toUInt32 >>> ((1 : Int32).toUInt32 &&& Int32.toUInt32 31)).toInt32) &&& 1431655765)) &&& 858993459) + ((((x0 - ((((x0 : Int32).toUInt32 >>> ((1 : Int32).toUInt32 &&& Int32.toUInt32 31)).toInt32) &&& 1431655765) : Int32).toUInt32 >>> ((2 : Int32).toUInt32 &&& Int32.toUInt32 31)).toInt32) &&& 858993459) : Int32).toUInt32 >>> ((4 : Int32).toUInt32 &&& Int32.toUInt32 31)).toInt32)) &&& 252645135 : Int32).toUInt32 >>> ((8 : Int32).toUInt32 &&& Int32.toUInt32 31)).toInt32) : Int32).toUInt32 >>> ((16 : Int32).toUInt32 &&& Int32.toUInt32 31)).toInt32)) &&& 63)) h) : lx_J6_bitCount_0f7a4 nc C Q 0 [.int (x0)] [] h := by
  refine tf_LW_go ?_
  exact ⟨(by first | trivial | rfl), q⟩
theorem en_J6_bitCount_0f7a4 {nc d : Nat} {Q : tf_Q} {h : LH} {x0 : Int32} (q : lx_J6_bitCount_0f7a4 nc (tf_Cd nc d) Q 0 [.int (x0)] [] h) : tf_Cd nc (d + 1) 243 [.int (x0)] h Q := by
  exact ⟨⟨Nat.le_of_ble_eq_true rfl, Or.inl rfl⟩, q⟩
