/-! ===== the methods, block by block (printed by program) ===== -/
abbrev lx_X9_in (nc : Nat) (C : tf_C) (Q : tf_Q) : tf_X := tf_LW nc C (tf_F 7) (tf_M 7) (tf_I 7) (tf_Eh 0) 2 tb_X9_in Q
set_option maxRecDepth 100000 in
theorem go_X9_in_0 {nc : Nat} {C : tf_C} {Q : tf_Q} {h : LH} (hn : 297 ≤ nc) {x0 : Int32} {x1 : Int32} {x2 : Int32} (q : (x0 < x1 → lx_X9_in nc C Q 14 [.int (x0), .int (x1), .int (x2)] [] h) ∧ (¬ x0 < x1 → (x2 < x0 → lx_X9_in nc C Q 14 [.int (x0), .int (x1), .int (x2)] [] h) ∧ (¬ x2 < x0 → lx_X9_in nc C Q 15 [.int (x0), .int (x1), .int (x2)] [.int (1)] h))) : lx_X9_in nc C Q 0 [.int (x0), .int (x1), .int (x2)] [] h := by
  refine tf_LW_go ?_
  exact ⟨q.1, fun c2 => ⟨(q.2 c2).1, fun c1 => ((q.2 c2).2 c1)⟩⟩
theorem en_X9_in {nc d : Nat} {Q : tf_Q} {h : LH} (hn : 297 ≤ nc) {x0 : Int32} {x1 : Int32} {x2 : Int32} (q : lx_X9_in nc (tf_Cd nc d) Q 0 [.int (x0), .int (x1), .int (x2)] [] h) : tf_Cd nc (d + 1) 0 [.int (x0), .int (x1), .int (x2)] h Q := by
  exact ⟨⟨Nat.le_of_ble_eq_true rfl, Or.inl rfl⟩, q⟩
set_option maxRecDepth 100000 in
theorem go_X9_in_14 {nc : Nat} {C : tf_C} {Q : tf_Q} {h : LH} (hn : 297 ≤ nc) {x0 : Int32} {x1 : Int32} {x2 : Int32} (q : lx_X9_in nc C Q 15 [.int (x0), .int (x1), .int (x2)] [.int (0)] h) : lx_X9_in nc C Q 14 [.int (x0), .int (x1), .int (x2)] [] h := by
  refine tf_LW_go ?_
  exact q
set_option maxRecDepth 100000 in
theorem go_X9_in_15 {nc : Nat} {C : tf_C} {Q : tf_Q} {h : LH} (hn : 297 ≤ nc) {x0 : Int32} {x1 : Int32} {x2 : Int32} {y0 : Int32} (q : (vp_nar .boolean (y0) = (y0)) ∧ Q (.int (y0)) h) : lx_X9_in nc C Q 15 [.int (x0), .int (x1), .int (x2)] [.int (y0)] h := by
  refine tf_LW_go ?_
  exact q
abbrev lx_X9_lesser (nc : Nat) (C : tf_C) (Q : tf_Q) : tf_X := tf_LW nc C (tf_F 7) (tf_M 7) (tf_I 7) (tf_Eh 1) 1 tb_X9_lesser Q
set_option maxRecDepth 100000 in
theorem go_X9_lesser_0 {nc : Nat} {C : tf_C} {Q : tf_Q} {h : LH} (hn : 297 ≤ nc) {x0 : Int32} {x1 : Int32} (q : (x1 ≤ x0 → lx_X9_lesser nc C Q 9 [.int (x0), .int (x1)] [] h) ∧ (¬ x1 ≤ x0 → lx_X9_lesser nc C Q 10 [.int (x0), .int (x1)] [.int (x0)] h)) : lx_X9_lesser nc C Q 0 [.int (x0), .int (x1)] [] h := by
  refine tf_LW_go ?_
  exact ⟨q.1, fun c1 => (q.2 c1)⟩
theorem en_X9_lesser {nc d : Nat} {Q : tf_Q} {h : LH} (hn : 297 ≤ nc) {x0 : Int32} {x1 : Int32} (q : lx_X9_lesser nc (tf_Cd nc d) Q 0 [.int (x0), .int (x1)] [] h) : tf_Cd nc (d + 1) 1 [.int (x0), .int (x1)] h Q := by
  exact ⟨⟨Nat.le_of_ble_eq_true rfl, Or.inl rfl⟩, q⟩
set_option maxRecDepth 100000 in
theorem go_X9_lesser_9 {nc : Nat} {C : tf_C} {Q : tf_Q} {h : LH} (hn : 297 ≤ nc) {x0 : Int32} {x1 : Int32} (q : lx_X9_lesser nc C Q 10 [.int (x0), .int (x1)] [.int (x1)] h) : lx_X9_lesser nc C Q 9 [.int (x0), .int (x1)] [] h := by
  refine tf_LW_go ?_
  exact q
set_option maxRecDepth 100000 in
theorem go_X9_lesser_10 {nc : Nat} {C : tf_C} {Q : tf_Q} {h : LH} (hn : 297 ≤ nc) {x0 : Int32} {x1 : Int32} {y0 : Int32} (q : Q (.int (y0)) h) : lx_X9_lesser nc C Q 10 [.int (x0), .int (x1)] [.int (y0)] h := by
  refine tf_LW_go ?_
  exact ⟨(by first | trivial | rfl), q⟩
abbrev lx_X9_greater (nc : Nat) (C : tf_C) (Q : tf_Q) : tf_X := tf_LW nc C (tf_F 7) (tf_M 7) (tf_I 7) (tf_Eh 2) 1 tb_X9_greater Q
set_option maxRecDepth 100000 in
theorem go_X9_greater_0 {nc : Nat} {C : tf_C} {Q : tf_Q} {h : LH} (hn : 297 ≤ nc) {x0 : Int32} {x1 : Int32} (q : (x0 ≤ x1 → lx_X9_greater nc C Q 9 [.int (x0), .int (x1)] [] h) ∧ (¬ x0 ≤ x1 → lx_X9_greater nc C Q 10 [.int (x0), .int (x1)] [.int (x0)] h)) : lx_X9_greater nc C Q 0 [.int (x0), .int (x1)] [] h := by
  refine tf_LW_go ?_
  exact ⟨q.1, fun c1 => (q.2 c1)⟩
theorem en_X9_greater {nc d : Nat} {Q : tf_Q} {h : LH} (hn : 297 ≤ nc) {x0 : Int32} {x1 : Int32} (q : lx_X9_greater nc (tf_Cd nc d) Q 0 [.int (x0), .int (x1)] [] h) : tf_Cd nc (d + 1) 2 [.int (x0), .int (x1)] h Q := by
  exact ⟨⟨Nat.le_of_ble_eq_true rfl, Or.inl rfl⟩, q⟩
set_option maxRecDepth 100000 in
theorem go_X9_greater_9 {nc : Nat} {C : tf_C} {Q : tf_Q} {h : LH} (hn : 297 ≤ nc) {x0 : Int32} {x1 : Int32} (q : lx_X9_greater nc C Q 10 [.int (x0), .int (x1)] [.int (x1)] h) : lx_X9_greater nc C Q 9 [.int (x0), .int (x1)] [] h := by
  refine tf_LW_go ?_
  exact q
set_option maxRecDepth 100000 in
theorem go_X9_greater_10 {nc : Nat} {C : tf_C} {Q : tf_Q} {h : LH} (hn : 297 ≤ nc) {x0 : Int32} {x1 : Int32} {y0 : Int32} (q : Q (.int (y0)) h) : lx_X9_greater nc C Q 10 [.int (x0), .int (x1)] [.int (y0)] h := by
  refine tf_LW_go ?_
  exact ⟨(by first | trivial | rfl), q⟩
abbrev lx_X9_of (nc : Nat) (C : tf_C) (Q : tf_Q) : tf_X := tf_LW nc C (tf_F 7) (tf_M 7) (tf_I 7) (tf_Eh 3) 1 tb_X9_of Q
set_option maxRecDepth 100000 in
theorem go_X9_of_0 {nc : Nat} {C : tf_C} {Q : tf_Q} {h : LH} (hn : 297 ≤ nc) {x1 : Int32} {x2 : Int32} (q : (vp_in ((72 + (7 * x1)) + x2) 865) ∧ Q (.int (h.1 271 ((72 + (7 * x1)) + x2 : Int32).toNatClampNeg)) h) : lx_X9_of nc C Q 0 [.ref (270), .int (x1), .int (x2)] [] h := by
  refine tf_LW_go ?_
  exact ⟨⟨(by first | rfl | trivial), (show 270 < nc by omega)⟩, ⟨⟨(by first | rfl | trivial), (show 271 < nc by omega), q.1⟩, ⟨(by first | trivial | rfl), q.2⟩⟩⟩
theorem en_X9_of {nc d : Nat} {Q : tf_Q} {h : LH} (hn : 297 ≤ nc) {x1 : Int32} {x2 : Int32} (q : lx_X9_of nc (tf_Cd nc d) Q 0 [.ref (270), .int (x1), .int (x2)] [] h) : tf_Cd nc (d + 1) 3 [.ref (270), .int (x1), .int (x2)] h Q := by
  exact ⟨⟨Nat.le_of_ble_eq_true rfl, Or.inr ⟨rfl, (show 270 < nc by omega)⟩⟩, q⟩
abbrev lx_X9_puts (nc : Nat) (C : tf_C) (Q : tf_Q) : tf_X := tf_LW nc C (tf_F 7) (tf_M 7) (tf_I 7) (tf_Eh 4) 0 tb_X9_puts Q
set_option maxRecDepth 100000 in
theorem go_X9_puts_0 {nc : Nat} {C : tf_C} {Q : tf_Q} {h : LH} (hn : 297 ≤ nc) {x1 : Int32} {x2 : Int32} {x3 : Int32} (q : (vp_in ((72 + (7 * x1)) + x2) 865) ∧ Q tf_z (tf_up h.1 271 ((72 + (7 * x1)) + x2 : Int32).toNatClampNeg x3, h.2)) : lx_X9_puts nc C Q 0 [.ref (270), .int (x1), .int (x2), .int (x3)] [] h := by
  refine tf_LW_go ?_
  exact ⟨⟨(by first | rfl | trivial), (show 270 < nc by omega)⟩, ⟨⟨(by first | rfl | trivial), (show 271 < nc by omega), q.1⟩, ⟨(by first | rfl | trivial), q.2⟩⟩⟩
theorem en_X9_puts {nc d : Nat} {Q : tf_Q} {h : LH} (hn : 297 ≤ nc) {x1 : Int32} {x2 : Int32} {x3 : Int32} (q : lx_X9_puts nc (tf_Cd nc d) Q 0 [.ref (270), .int (x1), .int (x2), .int (x3)] [] h) : tf_Cd nc (d + 1) 4 [.ref (270), .int (x1), .int (x2), .int (x3)] h Q := by
  exact ⟨⟨Nat.le_of_ble_eq_true rfl, Or.inr ⟨rfl, (show 270 < nc by omega)⟩⟩, q⟩
abbrev lx_X9_isArc (nc : Nat) (C : tf_C) (Q : tf_Q) : tf_X := tf_LW nc C (tf_F 7) (tf_M 7) (tf_I 7) (tf_Eh 5) 2 tb_X9_isArc Q
set_option maxRecDepth 100000 in
theorem go_X9_isArc_0 {nc : Nat} {C : tf_C} {Q : tf_Q} {h : LH} (hn : 297 ≤ nc) {x1 : Int32} (q : C 0 [.int (x1), .int (0), .int ((h.1 271 (1 : Int32).toNatClampNeg) - 1)] h (fun r g => lx_X9_isArc nc C Q 13 [.ref (270), .int (x1)] (r :: []) g)) : lx_X9_isArc nc C Q 0 [.ref (270), .int (x1)] [] h := by
  refine tf_LW_go ?_
  exact ⟨⟨(by first | rfl | trivial), (show 270 < nc by omega)⟩, ⟨⟨(by first | rfl | trivial), (show 271 < nc by omega), (vp_in_iff.mpr (by decide))⟩, ⟨Nat.le_of_ble_eq_true rfl, Nat.le_of_ble_eq_true rfl, q⟩⟩⟩
theorem en_X9_isArc {nc d : Nat} {Q : tf_Q} {h : LH} (hn : 297 ≤ nc) {x1 : Int32} (q : lx_X9_isArc nc (tf_Cd nc d) Q 0 [.ref (270), .int (x1)] [] h) : tf_Cd nc (d + 1) 5 [.ref (270), .int (x1)] h Q := by
  exact ⟨⟨Nat.le_of_ble_eq_true rfl, Or.inr ⟨rfl, (show 270 < nc by omega)⟩⟩, q⟩
set_option maxRecDepth 100000 in
theorem go_X9_isArc_13 {nc : Nat} {C : tf_C} {Q : tf_Q} {h : LH} (hn : 297 ≤ nc) {x1 : Int32} {y0 : Int32} (q : (vp_nar .boolean (y0) = (y0)) ∧ Q (.int (y0)) h) : lx_X9_isArc nc C Q 13 [.ref (270), .int (x1)] [.int (y0)] h := by
  refine tf_LW_go ?_
  exact q
abbrev lx_X9_isPoint (nc : Nat) (C : tf_C) (Q : tf_Q) : tf_X := tf_LW nc C (tf_F 7) (tf_M 7) (tf_I 7) (tf_Eh 6) 2 tb_X9_isPoint Q
set_option maxRecDepth 100000 in
theorem go_X9_isPoint_0 {nc : Nat} {C : tf_C} {Q : tf_Q} {h : LH} (hn : 297 ≤ nc) {x1 : Int32} (q : C 0 [.int (x1), .int (0), .int ((h.1 271 (0 : Int32).toNatClampNeg) - 1)] h (fun r g => lx_X9_isPoint nc C Q 13 [.ref (270), .int (x1)] (r :: []) g)) : lx_X9_isPoint nc C Q 0 [.ref (270), .int (x1)] [] h := by
  refine tf_LW_go ?_
  exact ⟨⟨(by first | rfl | trivial), (show 270 < nc by omega)⟩, ⟨⟨(by first | rfl | trivial), (show 271 < nc by omega), (vp_in_iff.mpr (by decide))⟩, ⟨Nat.le_of_ble_eq_true rfl, Nat.le_of_ble_eq_true rfl, q⟩⟩⟩
theorem en_X9_isPoint {nc d : Nat} {Q : tf_Q} {h : LH} (hn : 297 ≤ nc) {x1 : Int32} (q : lx_X9_isPoint nc (tf_Cd nc d) Q 0 [.ref (270), .int (x1)] [] h) : tf_Cd nc (d + 1) 6 [.ref (270), .int (x1)] h Q := by
  exact ⟨⟨Nat.le_of_ble_eq_true rfl, Or.inr ⟨rfl, (show 270 < nc by omega)⟩⟩, q⟩
set_option maxRecDepth 100000 in
theorem go_X9_isPoint_13 {nc : Nat} {C : tf_C} {Q : tf_Q} {h : LH} (hn : 297 ≤ nc) {x1 : Int32} {y0 : Int32} (q : (vp_nar .boolean (y0) = (y0)) ∧ Q (.int (y0)) h) : lx_X9_isPoint nc C Q 13 [.ref (270), .int (x1)] [.int (y0)] h := by
  refine tf_LW_go ?_
  exact q
abbrev lx_X9_areTwo (nc : Nat) (C : tf_C) (Q : tf_Q) : tf_X := tf_LW nc C (tf_F 7) (tf_M 7) (tf_I 7) (tf_Eh 7) 2 tb_X9_areTwo Q
set_option maxRecDepth 100000 in
theorem go_X9_areTwo_0 {nc : Nat} {C : tf_C} {Q : tf_Q} {h : LH} (hn : 297 ≤ nc) {x1 : Int32} {x2 : Int32} (q : C 6 [.ref (270), .int (x1)] h (fun r g => lx_X9_areTwo nc C Q 5 [.ref (270), .int (x1), .int (x2)] (r :: []) g)) : lx_X9_areTwo nc C Q 0 [.ref (270), .int (x1), .int (x2)] [] h := by
  refine tf_LW_go ?_
  exact ⟨Nat.le_of_ble_eq_true rfl, Nat.le_of_ble_eq_true rfl, q⟩
theorem en_X9_areTwo {nc d : Nat} {Q : tf_Q} {h : LH} (hn : 297 ≤ nc) {x1 : Int32} {x2 : Int32} (q : lx_X9_areTwo nc (tf_Cd nc d) Q 0 [.ref (270), .int (x1), .int (x2)] [] h) : tf_Cd nc (d + 1) 7 [.ref (270), .int (x1), .int (x2)] h Q := by
  exact ⟨⟨Nat.le_of_ble_eq_true rfl, Or.inr ⟨rfl, (show 270 < nc by omega)⟩⟩, q⟩
set_option maxRecDepth 100000 in
theorem go_X9_areTwo_5 {nc : Nat} {C : tf_C} {Q : tf_Q} {h : LH} (hn : 297 ≤ nc) {x1 : Int32} {x2 : Int32} {y0 : Int32} (q : (y0 = (0 : Int32) → lx_X9_areTwo nc C Q 25 [.ref (270), .int (x1), .int (x2)] [] h) ∧ (¬ y0 = (0 : Int32) → C 6 [.ref (270), .int (x2)] h (fun r g => lx_X9_areTwo nc C Q 13 [.ref (270), .int (x1), .int (x2)] (r :: []) g))) : lx_X9_areTwo nc C Q 5 [.ref (270), .int (x1), .int (x2)] [.int (y0)] h := by
  refine tf_LW_go ?_
  exact ⟨q.1, fun c1 => ⟨Nat.le_of_ble_eq_true rfl, Nat.le_of_ble_eq_true rfl, (q.2 c1)⟩⟩
set_option maxRecDepth 100000 in
theorem go_X9_areTwo_13 {nc : Nat} {C : tf_C} {Q : tf_Q} {h : LH} (hn : 297 ≤ nc) {x1 : Int32} {x2 : Int32} {y0 : Int32} (q : (y0 = (0 : Int32) → lx_X9_areTwo nc C Q 25 [.ref (270), .int (x1), .int (x2)] [] h) ∧ (¬ y0 = (0 : Int32) → (x1 = x2 → lx_X9_areTwo nc C Q 25 [.ref (270), .int (x1), .int (x2)] [] h) ∧ (¬ x1 = x2 → lx_X9_areTwo nc C Q 26 [.ref (270), .int (x1), .int (x2)] [.int (1)] h))) : lx_X9_areTwo nc C Q 13 [.ref (270), .int (x1), .int (x2)] [.int (y0)] h := by
  refine tf_LW_go ?_
  exact ⟨q.1, fun c2 => ⟨(q.2 c2).1, fun c1 => ((q.2 c2).2 c1)⟩⟩
set_option maxRecDepth 100000 in
theorem go_X9_areTwo_25 {nc : Nat} {C : tf_C} {Q : tf_Q} {h : LH} (hn : 297 ≤ nc) {x1 : Int32} {x2 : Int32} (q : lx_X9_areTwo nc C Q 26 [.ref (270), .int (x1), .int (x2)] [.int (0)] h) : lx_X9_areTwo nc C Q 25 [.ref (270), .int (x1), .int (x2)] [] h := by
  refine tf_LW_go ?_
  exact q
set_option maxRecDepth 100000 in
theorem go_X9_areTwo_26 {nc : Nat} {C : tf_C} {Q : tf_Q} {h : LH} (hn : 297 ≤ nc) {x1 : Int32} {x2 : Int32} {y0 : Int32} (q : (vp_nar .boolean (y0) = (y0)) ∧ Q (.int (y0)) h) : lx_X9_areTwo nc C Q 26 [.ref (270), .int (x1), .int (x2)] [.int (y0)] h := by
  refine tf_LW_go ?_
  exact q
abbrev lx_X9_spell (nc : Nat) (C : tf_C) (Q : tf_Q) : tf_X := tf_LW nc C (tf_F 7) (tf_M 7) (tf_I 7) (tf_Eh 8) 1 tb_X9_spell Q
set_option maxRecDepth 100000 in
theorem go_X9_spell_0 {nc : Nat} {C : tf_C} {Q : tf_Q} {h : LH} (hn : 297 ≤ nc) {x1 : Int64} (q : lx_X9_spell nc C Q 7 [.ref (270), .long (x1), tf_z, .int (0), tf_z] [] (tf_up h.1 270 0 0, h.2)) : lx_X9_spell nc C Q 0 [.ref (270), .long (x1), tf_z, tf_z, tf_z] [] h := by
  refine tf_LW_go ?_
  exact ⟨⟨(by first | rfl | trivial), (show 270 < nc by omega), (by first | rfl | trivial)⟩, q⟩
theorem en_X9_spell {nc d : Nat} {Q : tf_Q} {h : LH} (hn : 297 ≤ nc) {x1 : Int64} (q : lx_X9_spell nc (tf_Cd nc d) Q 0 [.ref (270), .long (x1), tf_z, tf_z, tf_z] [] h) : tf_Cd nc (d + 1) 8 [.ref (270), .long (x1)] h Q := by
  exact ⟨⟨Nat.le_of_ble_eq_true rfl, Or.inr ⟨rfl, (show 270 < nc by omega)⟩⟩, q⟩
set_option maxRecDepth 100000 in
theorem go_X9_spell_7 {nc : Nat} {C : tf_C} {Q : tf_Q} {h : LH} (hn : 297 ≤ nc) {x1 : Int64} {x3 : Int32} (q : ((8 : Int32) ≤ x3 → lx_X9_spell nc C Q 37 [.ref (270), .long (x1), tf_z, .int (x3), tf_z] [] h) ∧ (¬ (8 : Int32) ≤ x3 → ((lg_cmp ((x1 >>> ((56 - (8 * x3) : Int32).toInt64 &&& 63)) &&& 255) 0) = (0 : Int32) → lx_X9_spell nc C Q 37 [.ref (270), .long (x1), tf_z, .int (x3), tf_z] [] h) ∧ (¬ (lg_cmp ((x1 >>> ((56 - (8 * x3) : Int32).toInt64 &&& 63)) &&& 255) 0) = (0 : Int32) → lx_X9_spell nc C Q 7 [.ref (270), .long (x1), tf_z, .int (x3 + 1), tf_z] [] h))) : lx_X9_spell nc C Q 7 [.ref (270), .long (x1), tf_z, .int (x3), tf_z] [] h := by
  refine tf_LW_go ?_
  exact ⟨q.1, fun c2 => ⟨(q.2 c2).1, fun c1 => ((q.2 c2).2 c1)⟩⟩
set_option maxRecDepth 100000 in
theorem go_X9_spell_37 {nc : Nat} {C : tf_C} {Q : tf_Q} {h : LH} (hn : 297 ≤ nc) {x1 : Int64} {x3 : Int32} (q : (((h.1 271 (170 : Int32).toNatClampNeg) + x3) ≤ (400 : Int32) → lx_X9_spell nc C Q 55 [.ref (270), .long (x1), tf_z, .int (x3), tf_z] [] h) ∧ (¬ ((h.1 271 (170 : Int32).toNatClampNeg) + x3) ≤ (400 : Int32) → Q (.int ((-1))) h)) : lx_X9_spell nc C Q 37 [.ref (270), .long (x1), tf_z, .int (x3), tf_z] [] h := by
  refine tf_LW_go ?_
  exact ⟨⟨(by first | rfl | trivial), (show 270 < nc by omega)⟩, ⟨⟨(by first | rfl | trivial), (show 271 < nc by omega), (vp_in_iff.mpr (by decide))⟩, ⟨q.1, fun c1 => ⟨(by first | trivial | rfl), (q.2 c1)⟩⟩⟩⟩
set_option maxRecDepth 100000 in
theorem go_X9_spell_55 {nc : Nat} {C : tf_C} {Q : tf_Q} {h : LH} (hn : 297 ≤ nc) {x1 : Int64} {x3 : Int32} (q : lx_X9_spell nc C Q 58 [.ref (270), .long (x1), tf_z, .int (x3), .int (0)] [] h) : lx_X9_spell nc C Q 55 [.ref (270), .long (x1), tf_z, .int (x3), tf_z] [] h := by
  refine tf_LW_go ?_
  exact q
set_option maxRecDepth 100000 in
theorem go_X9_spell_58 {nc : Nat} {C : tf_C} {Q : tf_Q} {h : LH} (hn : 297 ≤ nc) {x1 : Int64} {x3 : Int32} {x4 : Int32} (q : (x3 ≤ x4 → lx_X9_spell nc C Q 107 [.ref (270), .long (x1), tf_z, .int (x3), .int (x4)] [] h) ∧ (¬ x3 ≤ x4 → (vp_in (h.1 271 (170 : Int32).toNatClampNeg) 1600) ∧ lx_X9_spell nc C Q 58 [.ref (270), .long (x1), tf_z, .int (x3), .int (x4 + 1)] [] (tf_up (tf_up h.1 272 (h.1 271 (170 : Int32).toNatClampNeg : Int32).toNatClampNeg (vp_nar .byte (((x1 >>> ((56 - (8 * x4) : Int32).toInt64 &&& 63) : Int64).toInt32 : Int32).toInt8.toInt32))) 271 (170 : Int32).toNatClampNeg (((tf_up h.1 272 (h.1 271 (170 : Int32).toNatClampNeg : Int32).toNatClampNeg (vp_nar .byte (((x1 >>> ((56 - (8 * x4) : Int32).toInt64 &&& 63) : Int64).toInt32 : Int32).toInt8.toInt32))) 271 (170 : Int32).toNatClampNeg) + 1), h.2))) : lx_X9_spell nc C Q 58 [.ref (270), .long (x1), tf_z, .int (x3), .int (x4)] [] h := by
  refine tf_LW_go ?_
  exact ⟨q.1, fun c1 => ⟨⟨(by first | rfl | trivial), (show 270 < nc by omega)⟩, ⟨⟨(by first | rfl | trivial), (show 270 < nc by omega)⟩, ⟨⟨(by first | rfl | trivial), (show 271 < nc by omega), (vp_in_iff.mpr (by decide))⟩, ⟨⟨(show 272 < nc by omega), (q.2 c1).1⟩, Or.inl ⟨(by first | rfl | trivial), ⟨⟨(by first | rfl | trivial), (show 270 < nc by omega)⟩, ⟨⟨(by first | rfl | trivial), (show 271 < nc by omega), (vp_in_iff.mpr (by decide))⟩, ⟨⟨(by first | rfl | trivial), (show 271 < nc by omega), (vp_in_iff.mpr (by decide))⟩, (q.2 c1).2⟩⟩⟩⟩⟩⟩⟩⟩⟩
set_option maxRecDepth 100000 in
theorem go_X9_spell_107 {nc : Nat} {C : tf_C} {Q : tf_Q} {h : LH} (hn : 297 ≤ nc) {x1 : Int64} {x3 : Int32} {x4 : Int32} (q : Q (.int (h.1 271 (170 : Int32).toNatClampNeg)) h) : lx_X9_spell nc C Q 107 [.ref (270), .long (x1), tf_z, .int (x3), .int (x4)] [] h := by
  refine tf_LW_go ?_
  exact ⟨⟨(by first | rfl | trivial), (show 270 < nc by omega)⟩, ⟨⟨(by first | rfl | trivial), (show 271 < nc by omega), (vp_in_iff.mpr (by decide))⟩, ⟨(by first | trivial | rfl), q⟩⟩⟩
abbrev lx_X9_see (nc : Nat) (C : tf_C) (Q : tf_Q) : tf_X := tf_LW nc C (tf_F 7) (tf_M 7) (tf_I 7) (tf_Eh 9) 1 tb_X9_see Q
set_option maxRecDepth 100000 in
theorem go_X9_see_0 {nc : Nat} {C : tf_C} {Q : tf_Q} {h : LH} (hn : 297 ≤ nc) (q : ((h.1 270 7) ≤ (h.1 270 6) → lx_X9_see nc C Q 27 [.ref (270)] [] h) ∧ (¬ (h.1 270 7) ≤ (h.1 270 6) → (vp_in (h.1 270 6) 1600) ∧ lx_X9_see nc C Q 28 [.ref (270)] [.int ((h.1 272 (h.1 270 6 : Int32).toNatClampNeg) &&& 255)] h)) : lx_X9_see nc C Q 0 [.ref (270)] [] h := by
  refine tf_LW_go ?_
  exact ⟨⟨(by first | rfl | trivial), (show 270 < nc by omega)⟩, ⟨⟨(by first | rfl | trivial), (show 270 < nc by omega)⟩, ⟨q.1, fun c1 => ⟨⟨(by first | rfl | trivial), (show 270 < nc by omega)⟩, ⟨⟨(by first | rfl | trivial), (show 270 < nc by omega)⟩, ⟨⟨(Or.inl (by first | rfl | trivial)), (show 272 < nc by omega), (q.2 c1).1⟩, (q.2 c1).2⟩⟩⟩⟩⟩⟩
theorem en_X9_see {nc d : Nat} {Q : tf_Q} {h : LH} (hn : 297 ≤ nc) (q : lx_X9_see nc (tf_Cd nc d) Q 0 [.ref (270)] [] h) : tf_Cd nc (d + 1) 9 [.ref (270)] h Q := by
  exact ⟨⟨Nat.le_of_ble_eq_true rfl, Or.inr ⟨rfl, (show 270 < nc by omega)⟩⟩, q⟩
set_option maxRecDepth 100000 in
theorem go_X9_see_27 {nc : Nat} {C : tf_C} {Q : tf_Q} {h : LH} (hn : 297 ≤ nc) (q : lx_X9_see nc C Q 28 [.ref (270)] [.int ((-1))] h) : lx_X9_see nc C Q 27 [.ref (270)] [] h := by
  refine tf_LW_go ?_
  exact q
set_option maxRecDepth 100000 in
theorem go_X9_see_28 {nc : Nat} {C : tf_C} {Q : tf_Q} {h : LH} (hn : 297 ≤ nc) {y0 : Int32} (q : Q (.int (y0)) h) : lx_X9_see nc C Q 28 [.ref (270)] [.int (y0)] h := by
  refine tf_LW_go ?_
  exact ⟨(by first | trivial | rfl), q⟩
abbrev lx_X9_token (nc : Nat) (C : tf_C) (Q : tf_Q) : tf_X := tf_LW nc C (tf_F 7) (tf_M 7) (tf_I 7) (tf_Eh 10) 0 tb_X9_token Q
set_option maxRecDepth 100000 in
theorem go_X9_token_0 {nc : Nat} {C : tf_C} {Q : tf_Q} {h : LH} (hn : 297 ≤ nc) (q : C 9 [.ref (270)] h (fun r g => lx_X9_token nc C Q 4 [.ref (270), tf_z, tf_z] (r :: []) g)) : lx_X9_token nc C Q 0 [.ref (270), tf_z, tf_z] [] h := by
  refine tf_LW_go ?_
  exact ⟨Nat.le_of_ble_eq_true rfl, Nat.le_of_ble_eq_true rfl, q⟩
theorem en_X9_token {nc d : Nat} {Q : tf_Q} {h : LH} (hn : 297 ≤ nc) (q : lx_X9_token nc (tf_Cd nc d) Q 0 [.ref (270), tf_z, tf_z] [] h) : tf_Cd nc (d + 1) 10 [.ref (270)] h Q := by
  exact ⟨⟨Nat.le_of_ble_eq_true rfl, Or.inr ⟨rfl, (show 270 < nc by omega)⟩⟩, q⟩
set_option maxRecDepth 100000 in
theorem go_X9_token_4 {nc : Nat} {C : tf_C} {Q : tf_Q} {h : LH} (hn : 297 ≤ nc) {y0 : Int32} (q : (y0 = (10 : Int32) → lx_X9_token nc C Q 18 [.ref (270), tf_z, tf_z] [] h) ∧ (¬ y0 = (10 : Int32) → C 9 [.ref (270)] h (fun r g => lx_X9_token nc C Q 13 [.ref (270), tf_z, tf_z] (r :: []) g))) : lx_X9_token nc C Q 4 [.ref (270), tf_z, tf_z] [.int (y0)] h := by
  refine tf_LW_go ?_
  exact ⟨q.1, fun c1 => ⟨Nat.le_of_ble_eq_true rfl, Nat.le_of_ble_eq_true rfl, (q.2 c1)⟩⟩
set_option maxRecDepth 100000 in
theorem go_X9_token_13 {nc : Nat} {C : tf_C} {Q : tf_Q} {h : LH} (hn : 297 ≤ nc) {y0 : Int32} (q : (y0 = (32 : Int32) → lx_X9_token nc C Q 18 [.ref (270), tf_z, tf_z] [] h) ∧ (¬ y0 = (32 : Int32) → lx_X9_token nc C Q 31 [.ref (270), tf_z, tf_z] [] h)) : lx_X9_token nc C Q 13 [.ref (270), tf_z, tf_z] [.int (y0)] h := by
  refine tf_LW_go ?_
  exact ⟨fun c1 => (q.1 c1), q.2⟩
set_option maxRecDepth 100000 in
theorem go_X9_token_18 {nc : Nat} {C : tf_C} {Q : tf_Q} {h : LH} (hn : 297 ≤ nc) (q : lx_X9_token nc C Q 0 [.ref (270), tf_z, tf_z] [] (tf_up h.1 270 6 ((h.1 270 6) + 1), h.2)) : lx_X9_token nc C Q 18 [.ref (270), tf_z, tf_z] [] h := by
  refine tf_LW_go ?_
  exact ⟨⟨(by first | rfl | trivial), (show 270 < nc by omega)⟩, ⟨⟨(by first | rfl | trivial), (show 270 < nc by omega), (by first | rfl | trivial)⟩, q⟩⟩
set_option maxRecDepth 100000 in
theorem go_X9_token_31 {nc : Nat} {C : tf_C} {Q : tf_Q} {h : LH} (hn : 297 ≤ nc) (q : C 9 [.ref (270)] (tf_up h.1 270 8 (h.1 270 6), h.2) (fun r g => lx_X9_token nc C Q 43 [.ref (270), tf_z, tf_z] (r :: []) g)) : lx_X9_token nc C Q 31 [.ref (270), tf_z, tf_z] [] h := by
  refine tf_LW_go ?_
  exact ⟨⟨(by first | rfl | trivial), (show 270 < nc by omega)⟩, ⟨⟨(by first | rfl | trivial), (show 270 < nc by omega), (by first | rfl | trivial)⟩, ⟨Nat.le_of_ble_eq_true rfl, Nat.le_of_ble_eq_true rfl, q⟩⟩⟩
set_option maxRecDepth 100000 in
theorem go_X9_token_43 {nc : Nat} {C : tf_C} {Q : tf_Q} {h : LH} (hn : 297 ≤ nc) {y0 : Int32} (q : ((0 : Int32) ≤ y0 → lx_X9_token nc C Q 63 [.ref (270), .int (y0), .int (0)] [] (h.1, tf_upL h.2 270 11 0)) ∧ (¬ (0 : Int32) ≤ y0 → lx_X9_token nc C Q 266 [.ref (270), .int (y0), .int (0)] [] (tf_up h.1 270 9 0, tf_upL h.2 270 11 0))) : lx_X9_token nc C Q 43 [.ref (270), tf_z, tf_z] [.int (y0)] h := by
  refine tf_LW_go ?_
  exact ⟨⟨(by first | rfl | trivial), (show 270 < nc by omega), (by first | rfl | trivial)⟩, ⟨q.1, fun c1 => ⟨⟨(by first | rfl | trivial), (show 270 < nc by omega), (by first | rfl | trivial)⟩, (q.2 c1)⟩⟩⟩
set_option maxRecDepth 100000 in
theorem go_X9_token_63 {nc : Nat} {C : tf_C} {Q : tf_Q} {h : LH} (hn : 297 ≤ nc) {x1 : Int32} {x2 : Int32} (q : C 0 [.int (x1), .int (97), .int (122)] h (fun r g => lx_X9_token nc C Q 71 [.ref (270), .int (x1), .int (x2)] (r :: []) g)) : lx_X9_token nc C Q 63 [.ref (270), .int (x1), .int (x2)] [] h := by
  refine tf_LW_go ?_
  exact ⟨Nat.le_of_ble_eq_true rfl, Nat.le_of_ble_eq_true rfl, q⟩
set_option maxRecDepth 100000 in
theorem go_X9_token_71 {nc : Nat} {C : tf_C} {Q : tf_Q} {h : LH} (hn : 297 ≤ nc) {x1 : Int32} {x2 : Int32} {y0 : Int32} (q : (y0 = (0 : Int32) → lx_X9_token nc C Q 147 [.ref (270), .int (x1), .int (x2)] [] h) ∧ (¬ y0 = (0 : Int32) → lx_X9_token nc C Q 74 [.ref (270), .int (x1), .int (x2)] [] h)) : lx_X9_token nc C Q 71 [.ref (270), .int (x1), .int (x2)] [.int (y0)] h := by
  refine tf_LW_go ?_
  exact ⟨q.1, fun c1 => (q.2 c1)⟩
set_option maxRecDepth 100000 in
theorem go_X9_token_74 {nc : Nat} {C : tf_C} {Q : tf_Q} {h : LH} (hn : 297 ≤ nc) {x1 : Int32} {x2 : Int32} (q : C 9 [.ref (270)] h (fun r g => lx_X9_token nc C Q 78 [.ref (270), .int (x1), .int (x2)] (r :: []) g)) : lx_X9_token nc C Q 74 [.ref (270), .int (x1), .int (x2)] [] h := by
  refine tf_LW_go ?_
  exact ⟨Nat.le_of_ble_eq_true rfl, Nat.le_of_ble_eq_true rfl, q⟩
set_option maxRecDepth 100000 in
theorem go_X9_token_78 {nc : Nat} {C : tf_C} {Q : tf_Q} {h : LH} (hn : 297 ≤ nc) {x1 : Int32} {x2 : Int32} {y0 : Int32} (q : C 0 [.int (y0), .int (97), .int (122)] h (fun r g => lx_X9_token nc C Q 85 [.ref (270), .int (x1), .int (x2)] (r :: []) g)) : lx_X9_token nc C Q 78 [.ref (270), .int (x1), .int (x2)] [.int (y0)] h := by
  refine tf_LW_go ?_
  exact ⟨Nat.le_of_ble_eq_true rfl, Nat.le_of_ble_eq_true rfl, q⟩
set_option maxRecDepth 100000 in
theorem go_X9_token_85 {nc : Nat} {C : tf_C} {Q : tf_Q} {h : LH} (hn : 297 ≤ nc) {x1 : Int32} {x2 : Int32} {y0 : Int32} (q : (y0 = (0 : Int32) → lx_X9_token nc C Q 121 [.ref (270), .int (x1), .int (x2)] [] h) ∧ (¬ y0 = (0 : Int32) → C 9 [.ref (270)] h (fun r g => lx_X9_token nc C Q 100 [.ref (270), .int (x1), .int (x2)] (r :: [.long ((h.2 270 11) <<< ((8 : Int32).toInt64 &&& 63)), .ref (270)]) g))) : lx_X9_token nc C Q 85 [.ref (270), .int (x1), .int (x2)] [.int (y0)] h := by
  refine tf_LW_go ?_
  exact ⟨q.1, fun c1 => ⟨⟨(by first | rfl | trivial), (show 270 < nc by omega)⟩, ⟨Nat.le_of_ble_eq_true rfl, Nat.le_of_ble_eq_true rfl, (q.2 c1)⟩⟩⟩
set_option maxRecDepth 100000 in
theorem go_X9_token_100 {nc : Nat} {C : tf_C} {Q : tf_Q} {h : LH} (hn : 297 ≤ nc) {x1 : Int32} {x2 : Int32} {y1 : Int64} {y2 : Int32} (q : lx_X9_token nc C Q 74 [.ref (270), .int (x1), .int (x2 + 1)] [] (tf_up h.1 270 6 ((h.1 270 6) + 1), tf_upL h.2 270 11 (y1 ||| ((y2 : Int32).toInt64)))) : lx_X9_token nc C Q 100 [.ref (270), .int (x1), .int (x2)] [.int (y2), .long (y1), .ref (270)] h := by
  refine tf_LW_go ?_
  exact ⟨⟨(by first | rfl | trivial), (show 270 < nc by omega), (by first | rfl | trivial)⟩, ⟨⟨(by first | rfl | trivial), (show 270 < nc by omega)⟩, ⟨⟨(by first | rfl | trivial), (show 270 < nc by omega), (by first | rfl | trivial)⟩, q⟩⟩⟩
set_option maxRecDepth 100000 in
theorem go_X9_token_121 {nc : Nat} {C : tf_C} {Q : tf_Q} {h : LH} (hn : 297 ≤ nc) {x1 : Int32} {x2 : Int32} (q : (x2 ≤ (8 : Int32) → lx_X9_token nc C Q 132 [.ref (270), .int (x1), .int (x2)] [.ref (270)] h) ∧ (¬ x2 ≤ (8 : Int32) → lx_X9_token nc C Q 136 [.ref (270), .int (x1), .int (x2)] [.long (0), .ref (270)] h)) : lx_X9_token nc C Q 121 [.ref (270), .int (x1), .int (x2)] [] h := by
  refine tf_LW_go ?_
  exact ⟨q.1, fun c1 => (q.2 c1)⟩
set_option maxRecDepth 100000 in
theorem go_X9_token_132 {nc : Nat} {C : tf_C} {Q : tf_Q} {h : LH} (hn : 297 ≤ nc) {x1 : Int32} {x2 : Int32} (q : lx_X9_token nc C Q 136 [.ref (270), .int (x1), .int (x2)] [.long (h.2 270 11), .ref (270)] h) : lx_X9_token nc C Q 132 [.ref (270), .int (x1), .int (x2)] [.ref (270)] h := by
  refine tf_LW_go ?_
  exact ⟨⟨(by first | rfl | trivial), (show 270 < nc by omega)⟩, q⟩
set_option maxRecDepth 100000 in
theorem go_X9_token_136 {nc : Nat} {C : tf_C} {Q : tf_Q} {h : LH} (hn : 297 ≤ nc) {x1 : Int32} {x2 : Int32} {y1 : Int64} (q : lx_X9_token nc C Q 266 [.ref (270), .int (x1), .int (x2)] [] (tf_up h.1 270 9 2, tf_upL h.2 270 11 y1)) : lx_X9_token nc C Q 136 [.ref (270), .int (x1), .int (x2)] [.long (y1), .ref (270)] h := by
  refine tf_LW_go ?_
  exact ⟨⟨(by first | rfl | trivial), (show 270 < nc by omega), (by first | rfl | trivial)⟩, ⟨⟨(by first | rfl | trivial), (show 270 < nc by omega), (by first | rfl | trivial)⟩, q⟩⟩
set_option maxRecDepth 100000 in
theorem go_X9_token_147 {nc : Nat} {C : tf_C} {Q : tf_Q} {h : LH} (hn : 297 ≤ nc) {x1 : Int32} {x2 : Int32} (q : C 0 [.int (x1), .int (48), .int (57)] h (fun r g => lx_X9_token nc C Q 155 [.ref (270), .int (x1), .int (x2)] (r :: []) g)) : lx_X9_token nc C Q 147 [.ref (270), .int (x1), .int (x2)] [] h := by
  refine tf_LW_go ?_
  exact ⟨Nat.le_of_ble_eq_true rfl, Nat.le_of_ble_eq_true rfl, q⟩
set_option maxRecDepth 100000 in
theorem go_X9_token_155 {nc : Nat} {C : tf_C} {Q : tf_Q} {h : LH} (hn : 297 ≤ nc) {x1 : Int32} {x2 : Int32} {y0 : Int32} (q : (y0 = (0 : Int32) → lx_X9_token nc C Q 241 [.ref (270), .int (x1), .int (x2)] [] h) ∧ (¬ y0 = (0 : Int32) → lx_X9_token nc C Q 163 [.ref (270), .int (x1), .int (x2)] [] (tf_up h.1 270 10 0, h.2))) : lx_X9_token nc C Q 155 [.ref (270), .int (x1), .int (x2)] [.int (y0)] h := by
  refine tf_LW_go ?_
  exact ⟨q.1, fun c1 => ⟨⟨(by first | rfl | trivial), (show 270 < nc by omega), (by first | rfl | trivial)⟩, (q.2 c1)⟩⟩
set_option maxRecDepth 100000 in
theorem go_X9_token_163 {nc : Nat} {C : tf_C} {Q : tf_Q} {h : LH} (hn : 297 ≤ nc) {x1 : Int32} {x2 : Int32} (q : C 9 [.ref (270)] h (fun r g => lx_X9_token nc C Q 167 [.ref (270), .int (x1), .int (x2)] (r :: []) g)) : lx_X9_token nc C Q 163 [.ref (270), .int (x1), .int (x2)] [] h := by
  refine tf_LW_go ?_
  exact ⟨Nat.le_of_ble_eq_true rfl, Nat.le_of_ble_eq_true rfl, q⟩
set_option maxRecDepth 100000 in
theorem go_X9_token_167 {nc : Nat} {C : tf_C} {Q : tf_Q} {h : LH} (hn : 297 ≤ nc) {x1 : Int32} {x2 : Int32} {y0 : Int32} (q : C 0 [.int (y0), .int (48), .int (57)] h (fun r g => lx_X9_token nc C Q 174 [.ref (270), .int (x1), .int (x2)] (r :: []) g)) : lx_X9_token nc C Q 167 [.ref (270), .int (x1), .int (x2)] [.int (y0)] h := by
  refine tf_LW_go ?_
  exact ⟨Nat.le_of_ble_eq_true rfl, Nat.le_of_ble_eq_true rfl, q⟩
set_option maxRecDepth 100000 in
theorem go_X9_token_174 {nc : Nat} {C : tf_C} {Q : tf_Q} {h : LH} (hn : 297 ≤ nc) {x1 : Int32} {x2 : Int32} {y0 : Int32} (q : (y0 = (0 : Int32) → lx_X9_token nc C Q 224 [.ref (270), .int (x1), .int (x2)] [] h) ∧ (¬ y0 = (0 : Int32) → ((2 : Int32) ≤ x2 → lx_X9_token nc C Q 201 [.ref (270), .int (x1), .int (x2)] [.ref (270)] h) ∧ (¬ (2 : Int32) ≤ x2 → C 9 [.ref (270)] h (fun r g => lx_X9_token nc C Q 194 [.ref (270), .int (x1), .int (x2)] (r :: [.int (10 * (h.1 270 10)), .ref (270)]) g)))) : lx_X9_token nc C Q 174 [.ref (270), .int (x1), .int (x2)] [.int (y0)] h := by
  refine tf_LW_go ?_
  exact ⟨q.1, fun c2 => ⟨(q.2 c2).1, fun c1 => ⟨⟨(by first | rfl | trivial), (show 270 < nc by omega)⟩, ⟨Nat.le_of_ble_eq_true rfl, Nat.le_of_ble_eq_true rfl, ((q.2 c2).2 c1)⟩⟩⟩⟩
set_option maxRecDepth 100000 in
theorem go_X9_token_194 {nc : Nat} {C : tf_C} {Q : tf_Q} {h : LH} (hn : 297 ≤ nc) {x1 : Int32} {x2 : Int32} {y1 : Int32} {y2 : Int32} (q : lx_X9_token nc C Q 205 [.ref (270), .int (x1), .int (x2)] [.int ((y1 + y2) - 48), .ref (270)] h) : lx_X9_token nc C Q 194 [.ref (270), .int (x1), .int (x2)] [.int (y2), .int (y1), .ref (270)] h := by
  refine tf_LW_go ?_
  exact q
set_option maxRecDepth 100000 in
theorem go_X9_token_201 {nc : Nat} {C : tf_C} {Q : tf_Q} {h : LH} (hn : 297 ≤ nc) {x1 : Int32} {x2 : Int32} (q : lx_X9_token nc C Q 205 [.ref (270), .int (x1), .int (x2)] [.int (h.1 270 10), .ref (270)] h) : lx_X9_token nc C Q 201 [.ref (270), .int (x1), .int (x2)] [.ref (270)] h := by
  refine tf_LW_go ?_
  exact ⟨⟨(by first | rfl | trivial), (show 270 < nc by omega)⟩, q⟩
set_option maxRecDepth 100000 in
theorem go_X9_token_205 {nc : Nat} {C : tf_C} {Q : tf_Q} {h : LH} (hn : 297 ≤ nc) {x1 : Int32} {x2 : Int32} {y1 : Int32} (q : lx_X9_token nc C Q 163 [.ref (270), .int (x1), .int (x2 + 1)] [] (tf_up (tf_up h.1 270 10 y1) 270 6 (((tf_up h.1 270 10 y1) 270 6) + 1), h.2)) : lx_X9_token nc C Q 205 [.ref (270), .int (x1), .int (x2)] [.int (y1), .ref (270)] h := by
  refine tf_LW_go ?_
  exact ⟨⟨(by first | rfl | trivial), (show 270 < nc by omega), (by first | rfl | trivial)⟩, ⟨⟨(by first | rfl | trivial), (show 270 < nc by omega)⟩, ⟨⟨(by first | rfl | trivial), (show 270 < nc by omega), (by first | rfl | trivial)⟩, q⟩⟩⟩
set_option maxRecDepth 100000 in
theorem go_X9_token_224 {nc : Nat} {C : tf_C} {Q : tf_Q} {h : LH} (hn : 297 ≤ nc) {x1 : Int32} {x2 : Int32} (q : (x2 ≤ (2 : Int32) → lx_X9_token nc C Q 234 [.ref (270), .int (x1), .int (x2)] [.ref (270)] h) ∧ (¬ x2 ≤ (2 : Int32) → lx_X9_token nc C Q 235 [.ref (270), .int (x1), .int (x2)] [.int (1), .ref (270)] h)) : lx_X9_token nc C Q 224 [.ref (270), .int (x1), .int (x2)] [] h := by
  refine tf_LW_go ?_
  exact ⟨q.1, fun c1 => (q.2 c1)⟩
set_option maxRecDepth 100000 in
theorem go_X9_token_234 {nc : Nat} {C : tf_C} {Q : tf_Q} {h : LH} (hn : 297 ≤ nc) {x1 : Int32} {x2 : Int32} (q : lx_X9_token nc C Q 235 [.ref (270), .int (x1), .int (x2)] [.int (3), .ref (270)] h) : lx_X9_token nc C Q 234 [.ref (270), .int (x1), .int (x2)] [.ref (270)] h := by
  refine tf_LW_go ?_
  exact q
set_option maxRecDepth 100000 in
theorem go_X9_token_235 {nc : Nat} {C : tf_C} {Q : tf_Q} {h : LH} (hn : 297 ≤ nc) {x1 : Int32} {x2 : Int32} {y1 : Int32} (q : lx_X9_token nc C Q 266 [.ref (270), .int (x1), .int (x2)] [] (tf_up h.1 270 9 y1, h.2)) : lx_X9_token nc C Q 235 [.ref (270), .int (x1), .int (x2)] [.int (y1), .ref (270)] h := by
  refine tf_LW_go ?_
  exact ⟨⟨(by first | rfl | trivial), (show 270 < nc by omega), (by first | rfl | trivial)⟩, q⟩
set_option maxRecDepth 100000 in
theorem go_X9_token_241 {nc : Nat} {C : tf_C} {Q : tf_Q} {h : LH} (hn : 297 ≤ nc) {x1 : Int32} {x2 : Int32} (q : (x1 = (59 : Int32) → lx_X9_token nc C Q 263 [.ref (270), .int (x1), .int (x2)] [.int (4), .ref (270)] (tf_up h.1 270 6 ((h.1 270 6) + 1), h.2)) ∧ (¬ x1 = (59 : Int32) → lx_X9_token nc C Q 262 [.ref (270), .int (x1), .int (x2)] [.ref (270)] (tf_up h.1 270 6 ((h.1 270 6) + 1), h.2))) : lx_X9_token nc C Q 241 [.ref (270), .int (x1), .int (x2)] [] h := by
  refine tf_LW_go ?_
  exact ⟨⟨(by first | rfl | trivial), (show 270 < nc by omega)⟩, ⟨⟨(by first | rfl | trivial), (show 270 < nc by omega), (by first | rfl | trivial)⟩, ⟨fun c1 => (q.1 c1), q.2⟩⟩⟩
set_option maxRecDepth 100000 in
theorem go_X9_token_262 {nc : Nat} {C : tf_C} {Q : tf_Q} {h : LH} (hn : 297 ≤ nc) {x1 : Int32} {x2 : Int32} (q : lx_X9_token nc C Q 263 [.ref (270), .int (x1), .int (x2)] [.int (1), .ref (270)] h) : lx_X9_token nc C Q 262 [.ref (270), .int (x1), .int (x2)] [.ref (270)] h := by
  refine tf_LW_go ?_
  exact q
set_option maxRecDepth 100000 in
theorem go_X9_token_263 {nc : Nat} {C : tf_C} {Q : tf_Q} {h : LH} (hn : 297 ≤ nc) {x1 : Int32} {x2 : Int32} {y1 : Int32} (q : lx_X9_token nc C Q 266 [.ref (270), .int (x1), .int (x2)] [] (tf_up h.1 270 9 y1, h.2)) : lx_X9_token nc C Q 263 [.ref (270), .int (x1), .int (x2)] [.int (y1), .ref (270)] h := by
  refine tf_LW_go ?_
  exact ⟨⟨(by first | rfl | trivial), (show 270 < nc by omega), (by first | rfl | trivial)⟩, q⟩
set_option maxRecDepth 100000 in
theorem go_X9_token_266 {nc : Nat} {C : tf_C} {Q : tf_Q} {h : LH} (hn : 297 ≤ nc) {x1 : Int32} {x2 : Int32} (q : Q tf_z h) : lx_X9_token nc C Q 266 [.ref (270), .int (x1), .int (x2)] [] h := by
  refine tf_LW_go ?_
  exact ⟨(by first | rfl | trivial), q⟩
abbrev lx_X9_fails (nc : Nat) (C : tf_C) (Q : tf_Q) : tf_X := tf_LW nc C (tf_F 7) (tf_M 7) (tf_I 7) (tf_Eh 11) 2 tb_X9_fails Q
set_option maxRecDepth 100000 in
theorem go_X9_fails_0 {nc : Nat} {C : tf_C} {Q : tf_Q} {h : LH} (hn : 297 ≤ nc) (q : Q (.int (0)) (tf_up h.1 270 12 (h.1 270 8), h.2)) : lx_X9_fails nc C Q 0 [.ref (270)] [] h := by
  refine tf_LW_go ?_
  exact ⟨⟨(by first | rfl | trivial), (show 270 < nc by omega)⟩, ⟨⟨(by first | rfl | trivial), (show 270 < nc by omega), (by first | rfl | trivial)⟩, ⟨(by first | rfl | trivial), q⟩⟩⟩
theorem en_X9_fails {nc d : Nat} {Q : tf_Q} {h : LH} (hn : 297 ≤ nc) (q : lx_X9_fails nc (tf_Cd nc d) Q 0 [.ref (270)] [] h) : tf_Cd nc (d + 1) 11 [.ref (270)] h Q := by
  exact ⟨⟨Nat.le_of_ble_eq_true rfl, Or.inr ⟨rfl, (show 270 < nc by omega)⟩⟩, q⟩
abbrev lx_X9_isBad (nc : Nat) (C : tf_C) (Q : tf_Q) : tf_X := tf_LW nc C (tf_F 7) (tf_M 7) (tf_I 7) (tf_Eh 12) 0 tb_X9_isBad Q
set_option maxRecDepth 100000 in
theorem go_X9_isBad_0 {nc : Nat} {C : tf_C} {Q : tf_Q} {h : LH} (hn : 297 ≤ nc) {x1 : Int32} (q : ((h.1 270 13) = ((-1) : Int32) → lx_X9_isBad nc C Q 17 [.ref (270), .int (x1)] [.int (x1), .ref (270)] h) ∧ (¬ (h.1 270 13) = ((-1) : Int32) → lx_X9_isBad nc C Q 13 [.ref (270), .int (x1)] [.ref (270)] h)) : lx_X9_isBad nc C Q 0 [.ref (270), .int (x1)] [] h := by
  refine tf_LW_go ?_
  exact ⟨⟨(by first | rfl | trivial), (show 270 < nc by omega)⟩, ⟨fun c1 => (q.1 c1), q.2⟩⟩
theorem en_X9_isBad {nc d : Nat} {Q : tf_Q} {h : LH} (hn : 297 ≤ nc) {x1 : Int32} (q : lx_X9_isBad nc (tf_Cd nc d) Q 0 [.ref (270), .int (x1)] [] h) : tf_Cd nc (d + 1) 12 [.ref (270), .int (x1)] h Q := by
  exact ⟨⟨Nat.le_of_ble_eq_true rfl, Or.inr ⟨rfl, (show 270 < nc by omega)⟩⟩, q⟩
set_option maxRecDepth 100000 in
theorem go_X9_isBad_13 {nc : Nat} {C : tf_C} {Q : tf_Q} {h : LH} (hn : 297 ≤ nc) {x1 : Int32} (q : lx_X9_isBad nc C Q 17 [.ref (270), .int (x1)] [.int (h.1 270 13), .ref (270)] h) : lx_X9_isBad nc C Q 13 [.ref (270), .int (x1)] [.ref (270)] h := by
  refine tf_LW_go ?_
  exact ⟨⟨(by first | rfl | trivial), (show 270 < nc by omega)⟩, q⟩
set_option maxRecDepth 100000 in
theorem go_X9_isBad_17 {nc : Nat} {C : tf_C} {Q : tf_Q} {h : LH} (hn : 297 ≤ nc) {x1 : Int32} {y1 : Int32} (q : Q tf_z (tf_up h.1 270 13 y1, h.2)) : lx_X9_isBad nc C Q 17 [.ref (270), .int (x1)] [.int (y1), .ref (270)] h := by
  refine tf_LW_go ?_
  exact ⟨⟨(by first | rfl | trivial), (show 270 < nc by omega), (by first | rfl | trivial)⟩, ⟨(by first | rfl | trivial), q⟩⟩
abbrev lx_X9_takes (nc : Nat) (C : tf_C) (Q : tf_Q) : tf_X := tf_LW nc C (tf_F 7) (tf_M 7) (tf_I 7) (tf_Eh 13) 2 tb_X9_takes Q
set_option maxRecDepth 100000 in
theorem go_X9_takes_0 {nc : Nat} {C : tf_C} {Q : tf_Q} {h : LH} (hn : 297 ≤ nc) {x1 : Int32} {x2 : Int32} {x3 : Int32} (q : ((h.1 270 9) = (3 : Int32) → lx_X9_takes nc C Q 13 [.ref (270), .int (x1), .int (x2), .int (x3)] [] h) ∧ (¬ (h.1 270 9) = (3 : Int32) → C 11 [.ref (270)] h (fun r g => lx_X9_takes nc C Q 12 [.ref (270), .int (x1), .int (x2), .int (x3)] (r :: []) g))) : lx_X9_takes nc C Q 0 [.ref (270), .int (x1), .int (x2), .int (x3)] [] h := by
  refine tf_LW_go ?_
  exact ⟨⟨(by first | rfl | trivial), (show 270 < nc by omega)⟩, ⟨q.1, fun c1 => ⟨Nat.le_of_ble_eq_true rfl, Nat.le_of_ble_eq_true rfl, (q.2 c1)⟩⟩⟩
theorem en_X9_takes {nc d : Nat} {Q : tf_Q} {h : LH} (hn : 297 ≤ nc) {x1 : Int32} {x2 : Int32} {x3 : Int32} (q : lx_X9_takes nc (tf_Cd nc d) Q 0 [.ref (270), .int (x1), .int (x2), .int (x3)] [] h) : tf_Cd nc (d + 1) 13 [.ref (270), .int (x1), .int (x2), .int (x3)] h Q := by
  exact ⟨⟨Nat.le_of_ble_eq_true rfl, Or.inr ⟨rfl, (show 270 < nc by omega)⟩⟩, q⟩
set_option maxRecDepth 100000 in
theorem go_X9_takes_12 {nc : Nat} {C : tf_C} {Q : tf_Q} {h : LH} (hn : 297 ≤ nc) {x1 : Int32} {x2 : Int32} {x3 : Int32} {y0 : Int32} (q : (vp_nar .boolean (y0) = (y0)) ∧ Q (.int (y0)) h) : lx_X9_takes nc C Q 12 [.ref (270), .int (x1), .int (x2), .int (x3)] [.int (y0)] h := by
  refine tf_LW_go ?_
  exact q
set_option maxRecDepth 100000 in
theorem go_X9_takes_13 {nc : Nat} {C : tf_C} {Q : tf_Q} {h : LH} (hn : 297 ≤ nc) {x1 : Int32} {x2 : Int32} {x3 : Int32} (q : (vp_in x1 4) ∧ C 0 [.int ((tf_up h.1 275 (x1 : Int32).toNatClampNeg (h.1 270 10)) 270 10), .int (x2), .int (x3)] (tf_up h.1 275 (x1 : Int32).toNatClampNeg (h.1 270 10), h.2) (fun r g => lx_X9_takes nc C Q 32 [.ref (270), .int (x1), .int (x2), .int (x3)] (r :: []) g)) : lx_X9_takes nc C Q 13 [.ref (270), .int (x1), .int (x2), .int (x3)] [] h := by
  refine tf_LW_go ?_
  exact ⟨⟨(by first | rfl | trivial), (show 270 < nc by omega)⟩, ⟨⟨(by first | rfl | trivial), (show 270 < nc by omega)⟩, ⟨⟨(by first | rfl | trivial), (show 275 < nc by omega), q.1⟩, ⟨⟨(by first | rfl | trivial), (show 270 < nc by omega)⟩, ⟨Nat.le_of_ble_eq_true rfl, Nat.le_of_ble_eq_true rfl, q.2⟩⟩⟩⟩⟩
set_option maxRecDepth 100000 in
theorem go_X9_takes_32 {nc : Nat} {C : tf_C} {Q : tf_Q} {h : LH} (hn : 297 ≤ nc) {x1 : Int32} {x2 : Int32} {x3 : Int32} {y0 : Int32} (q : (y0 = (0 : Int32) → C 12 [.ref (270), .int (h.1 270 8)] h (fun r g => lx_X9_takes nc C Q 43 [.ref (270), .int (x1), .int (x2), .int (x3)] [] g)) ∧ (¬ y0 = (0 : Int32) → lx_X9_takes nc C Q 50 [.ref (270), .int (x1), .int (x2), .int (x3)] [] h)) : lx_X9_takes nc C Q 32 [.ref (270), .int (x1), .int (x2), .int (x3)] [.int (y0)] h := by
  refine tf_LW_go ?_
  exact ⟨fun c1 => ⟨⟨(by first | rfl | trivial), (show 270 < nc by omega)⟩, ⟨Nat.le_of_ble_eq_true rfl, Nat.le_of_ble_eq_true rfl, (q.1 c1)⟩⟩, q.2⟩
set_option maxRecDepth 100000 in
theorem go_X9_takes_43 {nc : Nat} {C : tf_C} {Q : tf_Q} {h : LH} (hn : 297 ≤ nc) {x1 : Int32} {x2 : Int32} {x3 : Int32} (q : (vp_in x1 4) ∧ lx_X9_takes nc C Q 50 [.ref (270), .int (x1), .int (x2), .int (x3)] [] (tf_up h.1 275 (x1 : Int32).toNatClampNeg x2, h.2)) : lx_X9_takes nc C Q 43 [.ref (270), .int (x1), .int (x2), .int (x3)] [] h := by
  refine tf_LW_go ?_
  exact ⟨⟨(by first | rfl | trivial), (show 270 < nc by omega)⟩, ⟨⟨(by first | rfl | trivial), (show 275 < nc by omega), q.1⟩, q.2⟩⟩
set_option maxRecDepth 100000 in
theorem go_X9_takes_50 {nc : Nat} {C : tf_C} {Q : tf_Q} {h : LH} (hn : 297 ≤ nc) {x1 : Int32} {x2 : Int32} {x3 : Int32} (q : C 10 [.ref (270)] h (fun r g => lx_X9_takes nc C Q 54 [.ref (270), .int (x1), .int (x2), .int (x3)] [] g)) : lx_X9_takes nc C Q 50 [.ref (270), .int (x1), .int (x2), .int (x3)] [] h := by
  refine tf_LW_go ?_
  exact ⟨Nat.le_of_ble_eq_true rfl, Nat.le_of_ble_eq_true rfl, q⟩
set_option maxRecDepth 100000 in
theorem go_X9_takes_54 {nc : Nat} {C : tf_C} {Q : tf_Q} {h : LH} (hn : 297 ≤ nc) {x1 : Int32} {x2 : Int32} {x3 : Int32} (q : Q (.int (1)) h) : lx_X9_takes nc C Q 54 [.ref (270), .int (x1), .int (x2), .int (x3)] [] h := by
  refine tf_LW_go ?_
  exact ⟨(by first | rfl | trivial), q⟩
abbrev lx_X9_atFirst (nc : Nat) (C : tf_C) (Q : tf_Q) : tf_X := tf_LW nc C (tf_F 7) (tf_M 7) (tf_I 7) (tf_Eh 14) 0 tb_X9_atFirst Q
set_option maxRecDepth 100000 in
theorem go_X9_atFirst_0 {nc : Nat} {C : tf_C} {Q : tf_Q} {h : LH} (hn : 297 ≤ nc) (q : lx_X9_atFirst nc C Q 17 [.ref (270), .int (0)] [] (tf_up (tf_up (tf_up h.1 270 18 2) 270 19 0) 270 20 0, h.2)) : lx_X9_atFirst nc C Q 0 [.ref (270), tf_z] [] h := by
  refine tf_LW_go ?_
  exact ⟨⟨(by first | rfl | trivial), (show 270 < nc by omega), (by first | rfl | trivial)⟩, ⟨⟨(by first | rfl | trivial), (show 270 < nc by omega), (by first | rfl | trivial)⟩, ⟨⟨(by first | rfl | trivial), (show 270 < nc by omega), (by first | rfl | trivial)⟩, q⟩⟩⟩
theorem en_X9_atFirst {nc d : Nat} {Q : tf_Q} {h : LH} (hn : 297 ≤ nc) (q : lx_X9_atFirst nc (tf_Cd nc d) Q 0 [.ref (270), tf_z] [] h) : tf_Cd nc (d + 1) 14 [.ref (270)] h Q := by
  exact ⟨⟨Nat.le_of_ble_eq_true rfl, Or.inr ⟨rfl, (show 270 < nc by omega)⟩⟩, q⟩
set_option maxRecDepth 100000 in
theorem go_X9_atFirst_17 {nc : Nat} {C : tf_C} {Q : tf_Q} {h : LH} (hn : 297 ≤ nc) {x1 : Int32} (q : ((7 : Int32) ≤ x1 → lx_X9_atFirst nc C Q 43 [.ref (270), .int (x1)] [] h) ∧ (¬ (7 : Int32) ≤ x1 → (vp_in x1 7) ∧ (vp_in x1 7) ∧ lx_X9_atFirst nc C Q 17 [.ref (270), .int (x1 + 1)] [] (tf_up (tf_up h.1 276 (x1 : Int32).toNatClampNeg 0) 278 (x1 : Int32).toNatClampNeg (-1), h.2))) : lx_X9_atFirst nc C Q 17 [.ref (270), .int (x1)] [] h := by
  refine tf_LW_go ?_
  exact ⟨q.1, fun c1 => ⟨⟨(by first | rfl | trivial), (show 270 < nc by omega)⟩, ⟨⟨(by first | rfl | trivial), (show 276 < nc by omega), (q.2 c1).1⟩, ⟨⟨(by first | rfl | trivial), (show 270 < nc by omega)⟩, ⟨⟨(by first | rfl | trivial), (show 278 < nc by omega), (q.2 c1).2.1⟩, (q.2 c1).2.2⟩⟩⟩⟩⟩
set_option maxRecDepth 100000 in
theorem go_X9_atFirst_43 {nc : Nat} {C : tf_C} {Q : tf_Q} {h : LH} (hn : 297 ≤ nc) {x1 : Int32} (q : lx_X9_atFirst nc C Q 45 [.ref (270), .int (0)] [] h) : lx_X9_atFirst nc C Q 43 [.ref (270), .int (x1)] [] h := by
  refine tf_LW_go ?_
  exact q
set_option maxRecDepth 100000 in
theorem go_X9_atFirst_45 {nc : Nat} {C : tf_C} {Q : tf_Q} {h : LH} (hn : 297 ≤ nc) {x1 : Int32} (q : ((98 : Int32) ≤ x1 → lx_X9_atFirst nc C Q 64 [.ref (270), .int (x1)] [] h) ∧ (¬ (98 : Int32) ≤ x1 → (vp_in x1 98) ∧ lx_X9_atFirst nc C Q 45 [.ref (270), .int (x1 + 1)] [] (tf_up h.1 277 (x1 : Int32).toNatClampNeg 0, h.2))) : lx_X9_atFirst nc C Q 45 [.ref (270), .int (x1)] [] h := by
  refine tf_LW_go ?_
  exact ⟨q.1, fun c1 => ⟨⟨(by first | rfl | trivial), (show 270 < nc by omega)⟩, ⟨⟨(by first | rfl | trivial), (show 277 < nc by omega), (q.2 c1).1⟩, (q.2 c1).2⟩⟩⟩
set_option maxRecDepth 100000 in
theorem go_X9_atFirst_64 {nc : Nat} {C : tf_C} {Q : tf_Q} {h : LH} (hn : 297 ≤ nc) {x1 : Int32} (q : Q tf_z (tf_up (tf_up h.1 270 13 (-1)) 270 6 0, h.2)) : lx_X9_atFirst nc C Q 64 [.ref (270), .int (x1)] [] h := by
  refine tf_LW_go ?_
  exact ⟨⟨(by first | rfl | trivial), (show 270 < nc by omega), (by first | rfl | trivial)⟩, ⟨⟨(by first | rfl | trivial), (show 270 < nc by omega), (by first | rfl | trivial)⟩, ⟨(by first | rfl | trivial), q⟩⟩⟩
abbrev lx_X9_takesPoint (nc : Nat) (C : tf_C) (Q : tf_Q) : tf_X := tf_LW nc C (tf_F 7) (tf_M 7) (tf_I 7) (tf_Eh 15) 2 tb_X9_takesPoint Q
set_option maxRecDepth 100000 in
theorem go_X9_takesPoint_0 {nc : Nat} {C : tf_C} {Q : tf_Q} {h : LH} (hn : 297 ≤ nc) {x1 : Int32} {x2 : Int32} (q : C 13 [.ref (270), .int (x1), .int (0), .int (6)] h (fun r g => lx_X9_takesPoint nc C Q 13 [.ref (270), .int (x1), .int (x2), .int (h.1 270 8)] (r :: []) g)) : lx_X9_takesPoint nc C Q 0 [.ref (270), .int (x1), .int (x2), tf_z] [] h := by
  refine tf_LW_go ?_
  exact ⟨⟨(by first | rfl | trivial), (show 270 < nc by omega)⟩, ⟨Nat.le_of_ble_eq_true rfl, Nat.le_of_ble_eq_true rfl, q⟩⟩
theorem en_X9_takesPoint {nc d : Nat} {Q : tf_Q} {h : LH} (hn : 297 ≤ nc) {x1 : Int32} {x2 : Int32} (q : lx_X9_takesPoint nc (tf_Cd nc d) Q 0 [.ref (270), .int (x1), .int (x2), tf_z] [] h) : tf_Cd nc (d + 1) 15 [.ref (270), .int (x1), .int (x2)] h Q := by
  exact ⟨⟨Nat.le_of_ble_eq_true rfl, Or.inr ⟨rfl, (show 270 < nc by omega)⟩⟩, q⟩
set_option maxRecDepth 100000 in
theorem go_X9_takesPoint_13 {nc : Nat} {C : tf_C} {Q : tf_Q} {h : LH} (hn : 297 ≤ nc) {x1 : Int32} {x2 : Int32} {x3 : Int32} {y0 : Int32} (q : (y0 = (0 : Int32) → Q (.int (0)) h) ∧ (¬ y0 = (0 : Int32) → lx_X9_takesPoint nc C Q 18 [.ref (270), .int (x1), .int (x2), .int (x3)] [] h)) : lx_X9_takesPoint nc C Q 13 [.ref (270), .int (x1), .int (x2), .int (x3)] [.int (y0)] h := by
  refine tf_LW_go ?_
  exact ⟨fun c1 => ⟨(by first | rfl | trivial), (q.1 c1)⟩, q.2⟩
set_option maxRecDepth 100000 in
theorem go_X9_takesPoint_18 {nc : Nat} {C : tf_C} {Q : tf_Q} {h : LH} (hn : 297 ≤ nc) {x1 : Int32} {x2 : Int32} {x3 : Int32} (q : (vp_in x1 4) ∧ ((h.1 275 (x1 : Int32).toNatClampNeg) = x2 → C 12 [.ref (270), .int (x3)] h (fun r g => lx_X9_takesPoint nc C Q 33 [.ref (270), .int (x1), .int (x2), .int (x3)] [] g)) ∧ (¬ (h.1 275 (x1 : Int32).toNatClampNeg) = x2 → lx_X9_takesPoint nc C Q 33 [.ref (270), .int (x1), .int (x2), .int (x3)] [] h)) : lx_X9_takesPoint nc C Q 18 [.ref (270), .int (x1), .int (x2), .int (x3)] [] h := by
  refine tf_LW_go ?_
  exact ⟨⟨(by first | rfl | trivial), (show 270 < nc by omega)⟩, ⟨⟨(by first | rfl | trivial), (show 275 < nc by omega), q.1⟩, ⟨fun c1 => ⟨Nat.le_of_ble_eq_true rfl, Nat.le_of_ble_eq_true rfl, (q.2.1 c1)⟩, q.2.2⟩⟩⟩
set_option maxRecDepth 100000 in
theorem go_X9_takesPoint_33 {nc : Nat} {C : tf_C} {Q : tf_Q} {h : LH} (hn : 297 ≤ nc) {x1 : Int32} {x2 : Int32} {x3 : Int32} (q : (vp_in x1 4) ∧ (vp_in x1 4) ∧ (vp_in (h.1 275 (x1 : Int32).toNatClampNeg) 7) ∧ ((h.1 278 (h.1 275 (x1 : Int32).toNatClampNeg : Int32).toNatClampNeg) = ((-1) : Int32) → lx_X9_takesPoint nc C Q 73 [.ref (270), .int (x1), .int (x2), .int (x3)] [.int (x3), .int (h.1 275 (x1 : Int32).toNatClampNeg), .ref (278)] h) ∧ (¬ (h.1 278 (h.1 275 (x1 : Int32).toNatClampNeg : Int32).toNatClampNeg) = ((-1) : Int32) → lx_X9_takesPoint nc C Q 62 [.ref (270), .int (x1), .int (x2), .int (x3)] [.int (h.1 275 (x1 : Int32).toNatClampNeg), .ref (278)] h)) : lx_X9_takesPoint nc C Q 33 [.ref (270), .int (x1), .int (x2), .int (x3)] [] h := by
  refine tf_LW_go ?_
  exact ⟨⟨(by first | rfl | trivial), (show 270 < nc by omega)⟩, ⟨⟨(by first | rfl | trivial), (show 270 < nc by omega)⟩, ⟨⟨(by first | rfl | trivial), (show 275 < nc by omega), q.1⟩, ⟨⟨(by first | rfl | trivial), (show 270 < nc by omega)⟩, ⟨⟨(by first | rfl | trivial), (show 270 < nc by omega)⟩, ⟨⟨(by first | rfl | trivial), (show 275 < nc by omega), q.2.1⟩, ⟨⟨(by first | rfl | trivial), (show 278 < nc by omega), q.2.2.1⟩, ⟨fun c1 => (q.2.2.2.1 c1), q.2.2.2.2⟩⟩⟩⟩⟩⟩⟩⟩
set_option maxRecDepth 100000 in
theorem go_X9_takesPoint_62 {nc : Nat} {C : tf_C} {Q : tf_Q} {h : LH} (hn : 297 ≤ nc) {x1 : Int32} {x2 : Int32} {x3 : Int32} {y0 ny0 : Nat} {y1 : Int32} (Ky0_0 : tf_K y0 = 8) (Ny0_0 : tf_N y0 = ny0) (By0 : y0 < nc) (q : (vp_in x1 4) ∧ (vp_in (h.1 275 (x1 : Int32).toNatClampNeg) 7) ∧ lx_X9_takesPoint nc C Q 73 [.ref (270), .int (x1), .int (x2), .int (x3)] [.int (h.1 278 (h.1 275 (x1 : Int32).toNatClampNeg : Int32).toNatClampNeg), .int (y1), .ref (y0)] h) : lx_X9_takesPoint nc C Q 62 [.ref (270), .int (x1), .int (x2), .int (x3)] [.int (y1), .ref (y0)] h := by
  refine tf_LW_go ?_
  show (tf_K 270 = 7 ∧ 270 < nc) ∧ (tf_K 270 = 7 ∧ 270 < nc) ∧ (tf_K 275 = 8 ∧ 275 < nc ∧ vp_in x1 4) ∧ (tf_K 278 = 8 ∧ 278 < nc ∧ vp_in (h.1 275 (x1 : Int32).toNatClampNeg) 7) ∧ lx_X9_takesPoint nc C Q 73 [.ref (270), .int (x1), .int (x2), .int (x3)] [.int (h.1 278 (h.1 275 (x1 : Int32).toNatClampNeg : Int32).toNatClampNeg), .int (y1), .ref (y0)] h
  try simp only [Ny0_0]
  exact ⟨⟨(by first | rfl | trivial), (show 270 < nc by omega)⟩, ⟨⟨(by first | rfl | trivial), (show 270 < nc by omega)⟩, ⟨⟨(by first | rfl | trivial), (show 275 < nc by omega), q.1⟩, ⟨⟨(by first | rfl | trivial), (show 278 < nc by omega), q.2.1⟩, q.2.2⟩⟩⟩⟩
set_option maxRecDepth 100000 in
theorem go_X9_takesPoint_73 {nc : Nat} {C : tf_C} {Q : tf_Q} {h : LH} (hn : 297 ≤ nc) {x1 : Int32} {x2 : Int32} {x3 : Int32} {y0 ny0 : Nat} {y1 : Int32} {y2 : Int32} (Ky0_0 : tf_K y0 = 8) (Ny0_0 : tf_N y0 = ny0) (By0 : y0 < nc) (q : (vp_in y1 ny0) ∧ Q (.int (1)) (tf_up h.1 y0 (y1 : Int32).toNatClampNeg y2, h.2)) : lx_X9_takesPoint nc C Q 73 [.ref (270), .int (x1), .int (x2), .int (x3)] [.int (y2), .int (y1), .ref (y0)] h := by
  refine tf_LW_go ?_
  show (tf_K y0 = 8 ∧ y0 < nc ∧ vp_in y1 (tf_N y0)) ∧ tf_rb 2 (1) ∧ Q (.int (1)) (tf_up h.1 y0 (y1 : Int32).toNatClampNeg y2, h.2)
  try simp only [Ny0_0]
  exact ⟨⟨Ky0_0, (show y0 < nc by omega), q.1⟩, ⟨(by first | rfl | trivial), q.2⟩⟩
abbrev lx_X9_arcLine (nc : Nat) (C : tf_C) (Q : tf_Q) : tf_X := tf_LW nc C (tf_F 7) (tf_M 7) (tf_I 7) (tf_Eh 16) 2 tb_X9_arcLine Q
set_option maxRecDepth 100000 in
theorem go_X9_arcLine_0 {nc : Nat} {C : tf_C} {Q : tf_Q} {h : LH} (hn : 297 ≤ nc) {x1 : Int32} (q : ((h.1 270 19) = (14 : Int32) → C 12 [.ref (270), .int (h.1 270 8)] h (fun r g => lx_X9_arcLine nc C Q 17 [.ref (270), .int (x1), tf_z] [] g)) ∧ (¬ (h.1 270 19) = (14 : Int32) → lx_X9_arcLine nc C Q 17 [.ref (270), .int (x1), tf_z] [] h)) : lx_X9_arcLine nc C Q 0 [.ref (270), .int (x1), tf_z] [] h := by
  refine tf_LW_go ?_
  exact ⟨⟨(by first | rfl | trivial), (show 270 < nc by omega)⟩, ⟨fun c1 => ⟨⟨(by first | rfl | trivial), (show 270 < nc by omega)⟩, ⟨Nat.le_of_ble_eq_true rfl, Nat.le_of_ble_eq_true rfl, (q.1 c1)⟩⟩, q.2⟩⟩
theorem en_X9_arcLine {nc d : Nat} {Q : tf_Q} {h : LH} (hn : 297 ≤ nc) {x1 : Int32} (q : lx_X9_arcLine nc (tf_Cd nc d) Q 0 [.ref (270), .int (x1), tf_z] [] h) : tf_Cd nc (d + 1) 16 [.ref (270), .int (x1)] h Q := by
  exact ⟨⟨Nat.le_of_ble_eq_true rfl, Or.inr ⟨rfl, (show 270 < nc by omega)⟩⟩, q⟩
set_option maxRecDepth 100000 in
theorem go_X9_arcLine_17 {nc : Nat} {C : tf_C} {Q : tf_Q} {h : LH} (hn : 297 ≤ nc) {x1 : Int32} (q : C 10 [.ref (270)] h (fun r g => lx_X9_arcLine nc C Q 21 [.ref (270), .int (x1), tf_z] [] g)) : lx_X9_arcLine nc C Q 17 [.ref (270), .int (x1), tf_z] [] h := by
  refine tf_LW_go ?_
  exact ⟨Nat.le_of_ble_eq_true rfl, Nat.le_of_ble_eq_true rfl, q⟩
set_option maxRecDepth 100000 in
theorem go_X9_arcLine_21 {nc : Nat} {C : tf_C} {Q : tf_Q} {h : LH} (hn : 297 ≤ nc) {x1 : Int32} (q : C 15 [.ref (270), .int (0), .int ((-1))] h (fun r g => lx_X9_arcLine nc C Q 27 [.ref (270), .int (x1), tf_z] (r :: []) g)) : lx_X9_arcLine nc C Q 21 [.ref (270), .int (x1), tf_z] [] h := by
  refine tf_LW_go ?_
  exact ⟨Nat.le_of_ble_eq_true rfl, Nat.le_of_ble_eq_true rfl, q⟩
set_option maxRecDepth 100000 in
theorem go_X9_arcLine_27 {nc : Nat} {C : tf_C} {Q : tf_Q} {h : LH} (hn : 297 ≤ nc) {x1 : Int32} {y0 : Int32} (q : (y0 = (0 : Int32) → lx_X9_arcLine nc C Q 66 [.ref (270), .int (x1), tf_z] [] h) ∧ (¬ y0 = (0 : Int32) → C 15 [.ref (270), .int (1), .int (h.1 275 (0 : Int32).toNatClampNeg)] h (fun r g => lx_X9_arcLine nc C Q 41 [.ref (270), .int (x1), tf_z] (r :: []) g))) : lx_X9_arcLine nc C Q 27 [.ref (270), .int (x1), tf_z] [.int (y0)] h := by
  refine tf_LW_go ?_
  exact ⟨q.1, fun c1 => ⟨⟨(by first | rfl | trivial), (show 270 < nc by omega)⟩, ⟨⟨(by first | rfl | trivial), (show 275 < nc by omega), (vp_in_iff.mpr (by decide))⟩, ⟨Nat.le_of_ble_eq_true rfl, Nat.le_of_ble_eq_true rfl, (q.2 c1)⟩⟩⟩⟩
set_option maxRecDepth 100000 in
theorem go_X9_arcLine_41 {nc : Nat} {C : tf_C} {Q : tf_Q} {h : LH} (hn : 297 ≤ nc) {x1 : Int32} {y0 : Int32} (q : (y0 = (0 : Int32) → lx_X9_arcLine nc C Q 66 [.ref (270), .int (x1), tf_z] [] h) ∧ (¬ y0 = (0 : Int32) → C 13 [.ref (270), .int (2), .int (0), .int (99)] h (fun r g => lx_X9_arcLine nc C Q 52 [.ref (270), .int (x1), tf_z] (r :: []) g))) : lx_X9_arcLine nc C Q 41 [.ref (270), .int (x1), tf_z] [.int (y0)] h := by
  refine tf_LW_go ?_
  exact ⟨q.1, fun c1 => ⟨Nat.le_of_ble_eq_true rfl, Nat.le_of_ble_eq_true rfl, (q.2 c1)⟩⟩
set_option maxRecDepth 100000 in
theorem go_X9_arcLine_52 {nc : Nat} {C : tf_C} {Q : tf_Q} {h : LH} (hn : 297 ≤ nc) {x1 : Int32} {y0 : Int32} (q : (y0 = (0 : Int32) → lx_X9_arcLine nc C Q 66 [.ref (270), .int (x1), tf_z] [] h) ∧ (¬ y0 = (0 : Int32) → C 13 [.ref (270), .int (3), .int (0), .int (99)] h (fun r g => lx_X9_arcLine nc C Q 63 [.ref (270), .int (x1), tf_z] (r :: []) g))) : lx_X9_arcLine nc C Q 52 [.ref (270), .int (x1), tf_z] [.int (y0)] h := by
  refine tf_LW_go ?_
  exact ⟨q.1, fun c1 => ⟨Nat.le_of_ble_eq_true rfl, Nat.le_of_ble_eq_true rfl, (q.2 c1)⟩⟩
set_option maxRecDepth 100000 in
theorem go_X9_arcLine_63 {nc : Nat} {C : tf_C} {Q : tf_Q} {h : LH} (hn : 297 ≤ nc) {x1 : Int32} {y0 : Int32} (q : (y0 = (0 : Int32) → lx_X9_arcLine nc C Q 66 [.ref (270), .int (x1), tf_z] [] h) ∧ (¬ y0 = (0 : Int32) → lx_X9_arcLine nc C Q 68 [.ref (270), .int (x1), tf_z] [] h)) : lx_X9_arcLine nc C Q 63 [.ref (270), .int (x1), tf_z] [.int (y0)] h := by
  refine tf_LW_go ?_
  exact ⟨fun c1 => (q.1 c1), q.2⟩
set_option maxRecDepth 100000 in
theorem go_X9_arcLine_66 {nc : Nat} {C : tf_C} {Q : tf_Q} {h : LH} (hn : 297 ≤ nc) {x1 : Int32} (q : Q (.int (0)) h) : lx_X9_arcLine nc C Q 66 [.ref (270), .int (x1), tf_z] [] h := by
  refine tf_LW_go ?_
  exact ⟨(by first | rfl | trivial), q⟩
set_option maxRecDepth 100000 in
theorem go_X9_arcLine_68 {nc : Nat} {C : tf_C} {Q : tf_Q} {h : LH} (hn : 297 ≤ nc) {x1 : Int32} (q : ((14 : Int32) ≤ (h.1 270 19) → lx_X9_arcLine nc C Q 153 [.ref (270), .int (x1), tf_z] [] h) ∧ (¬ (14 : Int32) ≤ (h.1 270 19) → (vp_in ((7 * (h.1 270 19)) + 0) 98) ∧ (vp_in ((7 * (h.1 270 19)) + 1) 98) ∧ (vp_in ((7 * (h.1 270 19)) + 2) 98) ∧ (vp_in ((7 * (h.1 270 19)) + 3) 98) ∧ lx_X9_arcLine nc C Q 153 [.ref (270), .int (x1), .int (7 * (h.1 270 19))] [] (tf_up (tf_up (tf_up (tf_up (tf_up h.1 277 ((7 * (h.1 270 19)) + 0 : Int32).toNatClampNeg (h.1 275 (0 : Int32).toNatClampNeg)) 277 ((7 * (h.1 270 19)) + 1 : Int32).toNatClampNeg ((tf_up h.1 277 ((7 * (h.1 270 19)) + 0 : Int32).toNatClampNeg (h.1 275 (0 : Int32).toNatClampNeg)) 275 (1 : Int32).toNatClampNeg)) 277 ((7 * (h.1 270 19)) + 2 : Int32).toNatClampNeg ((tf_up (tf_up h.1 277 ((7 * (h.1 270 19)) + 0 : Int32).toNatClampNeg (h.1 275 (0 : Int32).toNatClampNeg)) 277 ((7 * (h.1 270 19)) + 1 : Int32).toNatClampNeg ((tf_up h.1 277 ((7 * (h.1 270 19)) + 0 : Int32).toNatClampNeg (h.1 275 (0 : Int32).toNatClampNeg)) 275 (1 : Int32).toNatClampNeg)) 275 (2 : Int32).toNatClampNeg)) 277 ((7 * (h.1 270 19)) + 3 : Int32).toNatClampNeg (x1 * ((tf_up (tf_up (tf_up h.1 277 ((7 * (h.1 270 19)) + 0 : Int32).toNatClampNeg (h.1 275 (0 : Int32).toNatClampNeg)) 277 ((7 * (h.1 270 19)) + 1 : Int32).toNatClampNeg ((tf_up h.1 277 ((7 * (h.1 270 19)) + 0 : Int32).toNatClampNeg (h.1 275 (0 : Int32).toNatClampNeg)) 275 (1 : Int32).toNatClampNeg)) 277 ((7 * (h.1 270 19)) + 2 : Int32).toNatClampNeg ((tf_up (tf_up h.1 277 ((7 * (h.1 270 19)) + 0 : Int32).toNatClampNeg (h.1 275 (0 : Int32).toNatClampNeg)) 277 ((7 * (h.1 270 19)) + 1 : Int32).toNatClampNeg ((tf_up h.1 277 ((7 * (h.1 270 19)) + 0 : Int32).toNatClampNeg (h.1 275 (0 : Int32).toNatClampNeg)) 275 (1 : Int32).toNatClampNeg)) 275 (2 : Int32).toNatClampNeg)) 275 (3 : Int32).toNatClampNeg))) 270 19 (((tf_up (tf_up (tf_up (tf_up h.1 277 ((7 * (h.1 270 19)) + 0 : Int32).toNatClampNeg (h.1 275 (0 : Int32).toNatClampNeg)) 277 ((7 * (h.1 270 19)) + 1 : Int32).toNatClampNeg ((tf_up h.1 277 ((7 * (h.1 270 19)) + 0 : Int32).toNatClampNeg (h.1 275 (0 : Int32).toNatClampNeg)) 275 (1 : Int32).toNatClampNeg)) 277 ((7 * (h.1 270 19)) + 2 : Int32).toNatClampNeg ((tf_up (tf_up h.1 277 ((7 * (h.1 270 19)) + 0 : Int32).toNatClampNeg (h.1 275 (0 : Int32).toNatClampNeg)) 277 ((7 * (h.1 270 19)) + 1 : Int32).toNatClampNeg ((tf_up h.1 277 ((7 * (h.1 270 19)) + 0 : Int32).toNatClampNeg (h.1 275 (0 : Int32).toNatClampNeg)) 275 (1 : Int32).toNatClampNeg)) 275 (2 : Int32).toNatClampNeg)) 277 ((7 * (h.1 270 19)) + 3 : Int32).toNatClampNeg (x1 * ((tf_up (tf_up (tf_up h.1 277 ((7 * (h.1 270 19)) + 0 : Int32).toNatClampNeg (h.1 275 (0 : Int32).toNatClampNeg)) 277 ((7 * (h.1 270 19)) + 1 : Int32).toNatClampNeg ((tf_up h.1 277 ((7 * (h.1 270 19)) + 0 : Int32).toNatClampNeg (h.1 275 (0 : Int32).toNatClampNeg)) 275 (1 : Int32).toNatClampNeg)) 277 ((7 * (h.1 270 19)) + 2 : Int32).toNatClampNeg ((tf_up (tf_up h.1 277 ((7 * (h.1 270 19)) + 0 : Int32).toNatClampNeg (h.1 275 (0 : Int32).toNatClampNeg)) 277 ((7 * (h.1 270 19)) + 1 : Int32).toNatClampNeg ((tf_up h.1 277 ((7 * (h.1 270 19)) + 0 : Int32).toNatClampNeg (h.1 275 (0 : Int32).toNatClampNeg)) 275 (1 : Int32).toNatClampNeg)) 275 (2 : Int32).toNatClampNeg)) 275 (3 : Int32).toNatClampNeg))) 270 19) + 1), h.2))) : lx_X9_arcLine nc C Q 68 [.ref (270), .int (x1), tf_z] [] h := by
  refine tf_LW_go ?_
  exact ⟨⟨(by first | rfl | trivial), (show 270 < nc by omega)⟩, ⟨q.1, fun c1 => ⟨⟨(by first | rfl | trivial), (show 270 < nc by omega)⟩, ⟨⟨(by first | rfl | trivial), (show 270 < nc by omega)⟩, ⟨⟨(by first | rfl | trivial), (show 270 < nc by omega)⟩, ⟨⟨(by first | rfl | trivial), (show 275 < nc by omega), (vp_in_iff.mpr (by decide))⟩, ⟨⟨(by first | rfl | trivial), (show 277 < nc by omega), (q.2 c1).1⟩, ⟨⟨(by first | rfl | trivial), (show 270 < nc by omega)⟩, ⟨⟨(by first | rfl | trivial), (show 270 < nc by omega)⟩, ⟨⟨(by first | rfl | trivial), (show 275 < nc by omega), (vp_in_iff.mpr (by decide))⟩, ⟨⟨(by first | rfl | trivial), (show 277 < nc by omega), (q.2 c1).2.1⟩, ⟨⟨(by first | rfl | trivial), (show 270 < nc by omega)⟩, ⟨⟨(by first | rfl | trivial), (show 270 < nc by omega)⟩, ⟨⟨(by first | rfl | trivial), (show 275 < nc by omega), (vp_in_iff.mpr (by decide))⟩, ⟨⟨(by first | rfl | trivial), (show 277 < nc by omega), (q.2 c1).2.2.1⟩, ⟨⟨(by first | rfl | trivial), (show 270 < nc by omega)⟩, ⟨⟨(by first | rfl | trivial), (show 270 < nc by omega)⟩, ⟨⟨(by first | rfl | trivial), (show 275 < nc by omega), (vp_in_iff.mpr (by decide))⟩, ⟨⟨(by first | rfl | trivial), (show 277 < nc by omega), (q.2 c1).2.2.2.1⟩, ⟨⟨(by first | rfl | trivial), (show 270 < nc by omega)⟩, ⟨⟨(by first | rfl | trivial), (show 270 < nc by omega), (by first | rfl | trivial)⟩, (q.2 c1).2.2.2.2⟩⟩⟩⟩⟩⟩⟩⟩⟩⟩⟩⟩⟩⟩⟩⟩⟩⟩⟩⟩⟩
set_option maxRecDepth 100000 in
theorem go_X9_arcLine_153 {nc : Nat} {C : tf_C} {Q : tf_Q} {h : LH} (hn : 297 ≤ nc) {x1 : Int32} {x2 : Value} (q : Q (.int (1)) h) : lx_X9_arcLine nc C Q 153 [.ref (270), .int (x1), x2] [] h := by
  refine tf_LW_go ?_
  exact ⟨(by first | rfl | trivial), q⟩
abbrev lx_X9_ruleBy (nc : Nat) (C : tf_C) (Q : tf_Q) : tf_X := tf_LW nc C (tf_F 7) (tf_M 7) (tf_I 7) (tf_Eh 17) 1 tb_X9_ruleBy Q
set_option maxRecDepth 100000 in
theorem go_X9_ruleBy_0 {nc : Nat} {C : tf_C} {Q : tf_Q} {h : LH} (hn : 297 ≤ nc) {x0 : Int64} (q : ((lg_cmp x0 439855772532) = (0 : Int32) → lx_X9_ruleBy nc C Q 37 [.long (x0), tf_z] [.int (0)] h) ∧ (¬ (lg_cmp x0 439855772532) = (0 : Int32) → lx_X9_ruleBy nc C Q 12 [.long (x0), tf_z] [] h)) : lx_X9_ruleBy nc C Q 0 [.long (x0), tf_z] [] h := by
  refine tf_LW_go ?_
  exact ⟨fun c1 => (q.1 c1), q.2⟩
theorem en_X9_ruleBy {nc d : Nat} {Q : tf_Q} {h : LH} (hn : 297 ≤ nc) {x0 : Int64} (q : lx_X9_ruleBy nc (tf_Cd nc d) Q 0 [.long (x0), tf_z] [] h) : tf_Cd nc (d + 1) 17 [.long (x0)] h Q := by
  exact ⟨⟨Nat.le_of_ble_eq_true rfl, Or.inl rfl⟩, q⟩
set_option maxRecDepth 100000 in
theorem go_X9_ruleBy_12 {nc : Nat} {C : tf_C} {Q : tf_Q} {h : LH} (hn : 297 ≤ nc) {x0 : Int64} (q : ((lg_cmp x0 495874041200) = (0 : Int32) → lx_X9_ruleBy nc C Q 37 [.long (x0), tf_z] [.int (1)] h) ∧ (¬ (lg_cmp x0 495874041200) = (0 : Int32) → lx_X9_ruleBy nc C Q 24 [.long (x0), tf_z] [] h)) : lx_X9_ruleBy nc C Q 12 [.long (x0), tf_z] [] h := by
  refine tf_LW_go ?_
  exact ⟨fun c1 => (q.1 c1), q.2⟩
set_option maxRecDepth 100000 in
theorem go_X9_ruleBy_24 {nc : Nat} {C : tf_C} {Q : tf_Q} {h : LH} (hn : 297 ≤ nc) {x0 : Int64} (q : ((lg_cmp x0 491496238692) = (0 : Int32) → lx_X9_ruleBy nc C Q 37 [.long (x0), tf_z] [.int (2)] h) ∧ (¬ (lg_cmp x0 491496238692) = (0 : Int32) → lx_X9_ruleBy nc C Q 36 [.long (x0), tf_z] [] h)) : lx_X9_ruleBy nc C Q 24 [.long (x0), tf_z] [] h := by
  refine tf_LW_go ?_
  exact ⟨fun c1 => (q.1 c1), q.2⟩
set_option maxRecDepth 100000 in
theorem go_X9_ruleBy_36 {nc : Nat} {C : tf_C} {Q : tf_Q} {h : LH} (hn : 297 ≤ nc) {x0 : Int64} (q : lx_X9_ruleBy nc C Q 37 [.long (x0), tf_z] [.int ((-1))] h) : lx_X9_ruleBy nc C Q 36 [.long (x0), tf_z] [] h := by
  refine tf_LW_go ?_
  exact q
set_option maxRecDepth 100000 in
theorem go_X9_ruleBy_37 {nc : Nat} {C : tf_C} {Q : tf_Q} {h : LH} (hn : 297 ≤ nc) {x0 : Int64} {y0 : Int32} (q : Q (.int (y0)) h) : lx_X9_ruleBy nc C Q 37 [.long (x0), tf_z] [.int (y0)] h := by
  refine tf_LW_go ?_
  exact ⟨(by first | trivial | rfl), q⟩
abbrev lx_X9_gridLine (nc : Nat) (C : tf_C) (Q : tf_Q) : tf_X := tf_LW nc C (tf_F 7) (tf_M 7) (tf_I 7) (tf_Eh 18) 2 tb_X9_gridLine Q
set_option maxRecDepth 100000 in
theorem go_X9_gridLine_0 {nc : Nat} {C : tf_C} {Q : tf_Q} {h : LH} (hn : 297 ≤ nc) {x1 : Int64} (q : ((lg_cmp x1 6386275) = (0 : Int32) → lx_X9_gridLine nc C Q 16 [.ref (270), .long (x1), tf_z, tf_z] [] h) ∧ (¬ (lg_cmp x1 6386275) = (0 : Int32) → ((lg_cmp x1 1734437230) = (0 : Int32) → lx_X9_gridLine nc C Q 16 [.ref (270), .long (x1), tf_z, tf_z] [] h) ∧ (¬ (lg_cmp x1 1734437230) = (0 : Int32) → lx_X9_gridLine nc C Q 34 [.ref (270), .long (x1), tf_z, tf_z] [] h))) : lx_X9_gridLine nc C Q 0 [.ref (270), .long (x1), tf_z, tf_z] [] h := by
  refine tf_LW_go ?_
  exact ⟨q.1, fun c2 => ⟨fun c1 => ((q.2 c2).1 c1), (q.2 c2).2⟩⟩
theorem en_X9_gridLine {nc d : Nat} {Q : tf_Q} {h : LH} (hn : 297 ≤ nc) {x1 : Int64} (q : lx_X9_gridLine nc (tf_Cd nc d) Q 0 [.ref (270), .long (x1), tf_z, tf_z] [] h) : tf_Cd nc (d + 1) 18 [.ref (270), .long (x1)] h Q := by
  exact ⟨⟨Nat.le_of_ble_eq_true rfl, Or.inr ⟨rfl, (show 270 < nc by omega)⟩⟩, q⟩
set_option maxRecDepth 100000 in
theorem go_X9_gridLine_16 {nc : Nat} {C : tf_C} {Q : tf_Q} {h : LH} (hn : 297 ≤ nc) {x1 : Int64} (q : ((lg_cmp x1 6386275) = (0 : Int32) → lx_X9_gridLine nc C Q 30 [.ref (270), .long (x1), tf_z, tf_z] [.int (1), .ref (270)] h) ∧ (¬ (lg_cmp x1 6386275) = (0 : Int32) → lx_X9_gridLine nc C Q 29 [.ref (270), .long (x1), tf_z, tf_z] [.ref (270)] h)) : lx_X9_gridLine nc C Q 16 [.ref (270), .long (x1), tf_z, tf_z] [] h := by
  refine tf_LW_go ?_
  exact ⟨fun c1 => (q.1 c1), q.2⟩
set_option maxRecDepth 100000 in
theorem go_X9_gridLine_29 {nc : Nat} {C : tf_C} {Q : tf_Q} {h : LH} (hn : 297 ≤ nc) {x1 : Int64} (q : lx_X9_gridLine nc C Q 30 [.ref (270), .long (x1), tf_z, tf_z] [.int ((-1)), .ref (270)] h) : lx_X9_gridLine nc C Q 29 [.ref (270), .long (x1), tf_z, tf_z] [.ref (270)] h := by
  refine tf_LW_go ?_
  exact q
set_option maxRecDepth 100000 in
theorem go_X9_gridLine_30 {nc : Nat} {C : tf_C} {Q : tf_Q} {h : LH} (hn : 297 ≤ nc) {x1 : Int64} {y1 : Int32} (q : C 16 [.ref (270), .int (y1)] h (fun r g => lx_X9_gridLine nc C Q 33 [.ref (270), .long (x1), tf_z, tf_z] (r :: []) g)) : lx_X9_gridLine nc C Q 30 [.ref (270), .long (x1), tf_z, tf_z] [.int (y1), .ref (270)] h := by
  refine tf_LW_go ?_
  exact ⟨Nat.le_of_ble_eq_true rfl, Nat.le_of_ble_eq_true rfl, q⟩
set_option maxRecDepth 100000 in
theorem go_X9_gridLine_33 {nc : Nat} {C : tf_C} {Q : tf_Q} {h : LH} (hn : 297 ≤ nc) {x1 : Int64} {y0 : Int32} (q : (vp_nar .boolean (y0) = (y0)) ∧ Q (.int (y0)) h) : lx_X9_gridLine nc C Q 33 [.ref (270), .long (x1), tf_z, tf_z] [.int (y0)] h := by
  refine tf_LW_go ?_
  exact q
set_option maxRecDepth 100000 in
theorem go_X9_gridLine_34 {nc : Nat} {C : tf_C} {Q : tf_Q} {h : LH} (hn : 297 ≤ nc) {x1 : Int64} (q : C 17 [.long (x1)] h (fun r g => lx_X9_gridLine nc C Q 38 [.ref (270), .long (x1), tf_z, tf_z] (r :: []) g)) : lx_X9_gridLine nc C Q 34 [.ref (270), .long (x1), tf_z, tf_z] [] h := by
  refine tf_LW_go ?_
  exact ⟨Nat.le_of_ble_eq_true rfl, Nat.le_of_ble_eq_true rfl, q⟩
set_option maxRecDepth 100000 in
theorem go_X9_gridLine_38 {nc : Nat} {C : tf_C} {Q : tf_Q} {h : LH} (hn : 297 ≤ nc) {x1 : Int64} {y0 : Int32} (q : (y0 = ((-1) : Int32) → lx_X9_gridLine nc C Q 56 [.ref (270), .long (x1), tf_z, tf_z] [] h) ∧ (¬ y0 = ((-1) : Int32) → C 17 [.long (x1)] h (fun r g => lx_X9_gridLine nc C Q 47 [.ref (270), .long (x1), tf_z, tf_z] (r :: [.ref (270)]) g))) : lx_X9_gridLine nc C Q 38 [.ref (270), .long (x1), tf_z, tf_z] [.int (y0)] h := by
  refine tf_LW_go ?_
  exact ⟨q.1, fun c1 => ⟨Nat.le_of_ble_eq_true rfl, Nat.le_of_ble_eq_true rfl, (q.2 c1)⟩⟩
set_option maxRecDepth 100000 in
theorem go_X9_gridLine_47 {nc : Nat} {C : tf_C} {Q : tf_Q} {h : LH} (hn : 297 ≤ nc) {x1 : Int64} {y1 : Int32} (q : C 10 [.ref (270)] (tf_up h.1 270 20 y1, h.2) (fun r g => lx_X9_gridLine nc C Q 54 [.ref (270), .long (x1), tf_z, tf_z] [] g)) : lx_X9_gridLine nc C Q 47 [.ref (270), .long (x1), tf_z, tf_z] [.int (y1), .ref (270)] h := by
  refine tf_LW_go ?_
  exact ⟨⟨(by first | rfl | trivial), (show 270 < nc by omega), (by first | rfl | trivial)⟩, ⟨Nat.le_of_ble_eq_true rfl, Nat.le_of_ble_eq_true rfl, q⟩⟩
set_option maxRecDepth 100000 in
theorem go_X9_gridLine_54 {nc : Nat} {C : tf_C} {Q : tf_Q} {h : LH} (hn : 297 ≤ nc) {x1 : Int64} (q : Q (.int (1)) h) : lx_X9_gridLine nc C Q 54 [.ref (270), .long (x1), tf_z, tf_z] [] h := by
  refine tf_LW_go ?_
  exact ⟨(by first | rfl | trivial), q⟩
set_option maxRecDepth 100000 in
theorem go_X9_gridLine_56 {nc : Nat} {C : tf_C} {Q : tf_Q} {h : LH} (hn : 297 ≤ nc) {x1 : Int64} (q : ((lg_cmp x1 123623812527219) = (0 : Int32) → C 10 [.ref (270)] h (fun r g => lx_X9_gridLine nc C Q 68 [.ref (270), .long (x1), tf_z, tf_z] [] g)) ∧ (¬ (lg_cmp x1 123623812527219) = (0 : Int32) → lx_X9_gridLine nc C Q 89 [.ref (270), .long (x1), tf_z, tf_z] [] h)) : lx_X9_gridLine nc C Q 56 [.ref (270), .long (x1), tf_z, tf_z] [] h := by
  refine tf_LW_go ?_
  exact ⟨fun c1 => ⟨Nat.le_of_ble_eq_true rfl, Nat.le_of_ble_eq_true rfl, (q.1 c1)⟩, q.2⟩
set_option maxRecDepth 100000 in
theorem go_X9_gridLine_68 {nc : Nat} {C : tf_C} {Q : tf_Q} {h : LH} (hn : 297 ≤ nc) {x1 : Int64} (q : C 13 [.ref (270), .int (0), .int (2), .int (7)] h (fun r g => lx_X9_gridLine nc C Q 76 [.ref (270), .long (x1), tf_z, tf_z] (r :: []) g)) : lx_X9_gridLine nc C Q 68 [.ref (270), .long (x1), tf_z, tf_z] [] h := by
  refine tf_LW_go ?_
  exact ⟨Nat.le_of_ble_eq_true rfl, Nat.le_of_ble_eq_true rfl, q⟩
set_option maxRecDepth 100000 in
theorem go_X9_gridLine_76 {nc : Nat} {C : tf_C} {Q : tf_Q} {h : LH} (hn : 297 ≤ nc) {x1 : Int64} {y0 : Int32} (q : (vp_nar .boolean (y0) = (y0)) ∧ Q (.int (y0)) (tf_up h.1 270 18 (h.1 275 (0 : Int32).toNatClampNeg), h.2)) : lx_X9_gridLine nc C Q 76 [.ref (270), .long (x1), tf_z, tf_z] [.int (y0)] h := by
  refine tf_LW_go ?_
  exact ⟨⟨(by first | rfl | trivial), (show 270 < nc by omega)⟩, ⟨⟨(by first | rfl | trivial), (show 275 < nc by omega), (vp_in_iff.mpr (by decide))⟩, ⟨⟨(by first | rfl | trivial), (show 270 < nc by omega), (by first | rfl | trivial)⟩, q⟩⟩⟩
set_option maxRecDepth 100000 in
theorem go_X9_gridLine_89 {nc : Nat} {C : tf_C} {Q : tf_Q} {h : LH} (hn : 297 ≤ nc) {x1 : Int64} (q : ((lg_cmp x1 422726034283) = (0 : Int32) → C 10 [.ref (270)] h (fun r g => lx_X9_gridLine nc C Q 101 [.ref (270), .long (x1), tf_z, tf_z] [] g)) ∧ (¬ (lg_cmp x1 422726034283) = (0 : Int32) → lx_X9_gridLine nc C Q 157 [.ref (270), .long (x1), tf_z, tf_z] [] h)) : lx_X9_gridLine nc C Q 89 [.ref (270), .long (x1), tf_z, tf_z] [] h := by
  refine tf_LW_go ?_
  exact ⟨fun c1 => ⟨Nat.le_of_ble_eq_true rfl, Nat.le_of_ble_eq_true rfl, (q.1 c1)⟩, q.2⟩
set_option maxRecDepth 100000 in
theorem go_X9_gridLine_101 {nc : Nat} {C : tf_C} {Q : tf_Q} {h : LH} (hn : 297 ≤ nc) {x1 : Int64} (q : C 13 [.ref (270), .int (0), .int (0), .int ((h.1 270 19) - 1)] h (fun r g => lx_X9_gridLine nc C Q 113 [.ref (270), .long (x1), tf_z, tf_z] (r :: []) g)) : lx_X9_gridLine nc C Q 101 [.ref (270), .long (x1), tf_z, tf_z] [] h := by
  refine tf_LW_go ?_
  exact ⟨⟨(by first | rfl | trivial), (show 270 < nc by omega)⟩, ⟨Nat.le_of_ble_eq_true rfl, Nat.le_of_ble_eq_true rfl, q⟩⟩
set_option maxRecDepth 100000 in
theorem go_X9_gridLine_113 {nc : Nat} {C : tf_C} {Q : tf_Q} {h : LH} (hn : 297 ≤ nc) {x1 : Int64} {y0 : Int32} (q : (y0 = (0 : Int32) → lx_X9_gridLine nc C Q 155 [.ref (270), .long (x1), tf_z, .int (y0)] [] h) ∧ (¬ y0 = (0 : Int32) → C 0 [.int (h.1 275 (0 : Int32).toNatClampNeg), .int (0), .int ((h.1 270 19) - 1)] h (fun r g => lx_X9_gridLine nc C Q 134 [.ref (270), .long (x1), tf_z, .int (y0)] (r :: []) g))) : lx_X9_gridLine nc C Q 113 [.ref (270), .long (x1), tf_z, tf_z] [.int (y0)] h := by
  refine tf_LW_go ?_
  exact ⟨q.1, fun c1 => ⟨⟨(by first | rfl | trivial), (show 270 < nc by omega)⟩, ⟨⟨(by first | rfl | trivial), (show 275 < nc by omega), (vp_in_iff.mpr (by decide))⟩, ⟨⟨(by first | rfl | trivial), (show 270 < nc by omega)⟩, ⟨Nat.le_of_ble_eq_true rfl, Nat.le_of_ble_eq_true rfl, (q.2 c1)⟩⟩⟩⟩⟩
set_option maxRecDepth 100000 in
theorem go_X9_gridLine_134 {nc : Nat} {C : tf_C} {Q : tf_Q} {h : LH} (hn : 297 ≤ nc) {x1 : Int64} {x3 : Int32} {y0 : Int32} (q : (y0 = (0 : Int32) → lx_X9_gridLine nc C Q 155 [.ref (270), .long (x1), tf_z, .int (x3)] [] h) ∧ (¬ y0 = (0 : Int32) → (vp_in ((7 * (h.1 275 (0 : Int32).toNatClampNeg)) + 6) 98) ∧ lx_X9_gridLine nc C Q 155 [.ref (270), .long (x1), tf_z, .int (x3)] [] (tf_up h.1 277 ((7 * (h.1 275 (0 : Int32).toNatClampNeg)) + 6 : Int32).toNatClampNeg 1, h.2))) : lx_X9_gridLine nc C Q 134 [.ref (270), .long (x1), tf_z, .int (x3)] [.int (y0)] h := by
  refine tf_LW_go ?_
  exact ⟨q.1, fun c1 => ⟨⟨(by first | rfl | trivial), (show 270 < nc by omega)⟩, ⟨⟨(by first | rfl | trivial), (show 270 < nc by omega)⟩, ⟨⟨(by first | rfl | trivial), (show 275 < nc by omega), (vp_in_iff.mpr (by decide))⟩, ⟨⟨(by first | rfl | trivial), (show 277 < nc by omega), (q.2 c1).1⟩, (q.2 c1).2⟩⟩⟩⟩⟩
set_option maxRecDepth 100000 in
theorem go_X9_gridLine_155 {nc : Nat} {C : tf_C} {Q : tf_Q} {h : LH} (hn : 297 ≤ nc) {x1 : Int64} {x3 : Int32} (q : (vp_nar .boolean (x3) = (x3)) ∧ Q (.int (x3)) h) : lx_X9_gridLine nc C Q 155 [.ref (270), .long (x1), tf_z, .int (x3)] [] h := by
  refine tf_LW_go ?_
  exact q
set_option maxRecDepth 100000 in
theorem go_X9_gridLine_157 {nc : Nat} {C : tf_C} {Q : tf_Q} {h : LH} (hn : 297 ≤ nc) {x1 : Int64} (q : ((lg_cmp x1 126948234783865) = (0 : Int32) → lx_X9_gridLine nc C Q 178 [.ref (270), .long (x1), tf_z, tf_z] [] h) ∧ (¬ (lg_cmp x1 126948234783865) = (0 : Int32) → ((lg_cmp x1 2002873972) = (0 : Int32) → lx_X9_gridLine nc C Q 178 [.ref (270), .long (x1), tf_z, tf_z] [] h) ∧ (¬ (lg_cmp x1 2002873972) = (0 : Int32) → C 11 [.ref (270)] h (fun r g => lx_X9_gridLine nc C Q 177 [.ref (270), .long (x1), tf_z, tf_z] (r :: []) g)))) : lx_X9_gridLine nc C Q 157 [.ref (270), .long (x1), tf_z, tf_z] [] h := by
  refine tf_LW_go ?_
  exact ⟨q.1, fun c2 => ⟨(q.2 c2).1, fun c1 => ⟨Nat.le_of_ble_eq_true rfl, Nat.le_of_ble_eq_true rfl, ((q.2 c2).2 c1)⟩⟩⟩
set_option maxRecDepth 100000 in
theorem go_X9_gridLine_177 {nc : Nat} {C : tf_C} {Q : tf_Q} {h : LH} (hn : 297 ≤ nc) {x1 : Int64} {y0 : Int32} (q : (vp_nar .boolean (y0) = (y0)) ∧ Q (.int (y0)) h) : lx_X9_gridLine nc C Q 177 [.ref (270), .long (x1), tf_z, tf_z] [.int (y0)] h := by
  refine tf_LW_go ?_
  exact q
set_option maxRecDepth 100000 in
theorem go_X9_gridLine_178 {nc : Nat} {C : tf_C} {Q : tf_Q} {h : LH} (hn : 297 ≤ nc) {x1 : Int64} (q : C 10 [.ref (270)] h (fun r g => lx_X9_gridLine nc C Q 182 [.ref (270), .long (x1), tf_z, tf_z] [] g)) : lx_X9_gridLine nc C Q 178 [.ref (270), .long (x1), tf_z, tf_z] [] h := by
  refine tf_LW_go ?_
  exact ⟨Nat.le_of_ble_eq_true rfl, Nat.le_of_ble_eq_true rfl, q⟩
set_option maxRecDepth 100000 in
theorem go_X9_gridLine_182 {nc : Nat} {C : tf_C} {Q : tf_Q} {h : LH} (hn : 297 ≤ nc) {x1 : Int64} (q : C 15 [.ref (270), .int (0), .int ((-1))] h (fun r g => lx_X9_gridLine nc C Q 188 [.ref (270), .long (x1), tf_z, tf_z] (r :: []) g)) : lx_X9_gridLine nc C Q 182 [.ref (270), .long (x1), tf_z, tf_z] [] h := by
  refine tf_LW_go ?_
  exact ⟨Nat.le_of_ble_eq_true rfl, Nat.le_of_ble_eq_true rfl, q⟩
set_option maxRecDepth 100000 in
theorem go_X9_gridLine_188 {nc : Nat} {C : tf_C} {Q : tf_Q} {h : LH} (hn : 297 ≤ nc) {x1 : Int64} {y0 : Int32} (q : (y0 = (0 : Int32) → lx_X9_gridLine nc C Q 202 [.ref (270), .long (x1), tf_z, tf_z] [] h) ∧ (¬ y0 = (0 : Int32) → C 13 [.ref (270), .int (1), .int (0), .int (99)] h (fun r g => lx_X9_gridLine nc C Q 199 [.ref (270), .long (x1), tf_z, tf_z] (r :: []) g))) : lx_X9_gridLine nc C Q 188 [.ref (270), .long (x1), tf_z, tf_z] [.int (y0)] h := by
  refine tf_LW_go ?_
  exact ⟨q.1, fun c1 => ⟨Nat.le_of_ble_eq_true rfl, Nat.le_of_ble_eq_true rfl, (q.2 c1)⟩⟩
set_option maxRecDepth 100000 in
theorem go_X9_gridLine_199 {nc : Nat} {C : tf_C} {Q : tf_Q} {h : LH} (hn : 297 ≤ nc) {x1 : Int64} {y0 : Int32} (q : (y0 = (0 : Int32) → lx_X9_gridLine nc C Q 202 [.ref (270), .long (x1), tf_z, tf_z] [] h) ∧ (¬ y0 = (0 : Int32) → lx_X9_gridLine nc C Q 204 [.ref (270), .long (x1), tf_z, tf_z] [] h)) : lx_X9_gridLine nc C Q 199 [.ref (270), .long (x1), tf_z, tf_z] [.int (y0)] h := by
  refine tf_LW_go ?_
  exact ⟨fun c1 => (q.1 c1), q.2⟩
set_option maxRecDepth 100000 in
theorem go_X9_gridLine_202 {nc : Nat} {C : tf_C} {Q : tf_Q} {h : LH} (hn : 297 ≤ nc) {x1 : Int64} (q : Q (.int (0)) h) : lx_X9_gridLine nc C Q 202 [.ref (270), .long (x1), tf_z, tf_z] [] h := by
  refine tf_LW_go ?_
  exact ⟨(by first | rfl | trivial), q⟩
set_option maxRecDepth 100000 in
theorem go_X9_gridLine_204 {nc : Nat} {C : tf_C} {Q : tf_Q} {h : LH} (hn : 297 ≤ nc) {x1 : Int64} (q : ((lg_cmp x1 126948234783865) = (0 : Int32) → lx_X9_gridLine nc C Q 238 [.ref (270), .long (x1), tf_z, tf_z] [.int (h.1 275 (1 : Int32).toNatClampNeg), .int (h.1 275 (0 : Int32).toNatClampNeg), .ref (276)] h) ∧ (¬ (lg_cmp x1 126948234783865) = (0 : Int32) → lx_X9_gridLine nc C Q 231 [.ref (270), .long (x1), tf_z, tf_z] [.int (h.1 275 (0 : Int32).toNatClampNeg), .ref (276)] h)) : lx_X9_gridLine nc C Q 204 [.ref (270), .long (x1), tf_z, tf_z] [] h := by
  refine tf_LW_go ?_
  exact ⟨⟨(by first | rfl | trivial), (show 270 < nc by omega)⟩, ⟨⟨(by first | rfl | trivial), (show 270 < nc by omega)⟩, ⟨⟨(by first | rfl | trivial), (show 275 < nc by omega), (vp_in_iff.mpr (by decide))⟩, ⟨fun c1 => ⟨⟨(by first | rfl | trivial), (show 270 < nc by omega)⟩, ⟨⟨(by first | rfl | trivial), (show 275 < nc by omega), (vp_in_iff.mpr (by decide))⟩, (q.1 c1)⟩⟩, q.2⟩⟩⟩⟩
set_option maxRecDepth 100000 in
theorem go_X9_gridLine_231 {nc : Nat} {C : tf_C} {Q : tf_Q} {h : LH} (hn : 297 ≤ nc) {x1 : Int64} {y0 ny0 : Nat} {y1 : Int32} (Ky0_0 : tf_K y0 = 8) (Ny0_0 : tf_N y0 = ny0) (By0 : y0 < nc) (q : lx_X9_gridLine nc C Q 238 [.ref (270), .long (x1), tf_z, tf_z] [.int (-(h.1 275 (1 : Int32).toNatClampNeg)), .int (y1), .ref (y0)] h) : lx_X9_gridLine nc C Q 231 [.ref (270), .long (x1), tf_z, tf_z] [.int (y1), .ref (y0)] h := by
  refine tf_LW_go ?_
  show (tf_K 270 = 7 ∧ 270 < nc) ∧ (tf_K 275 = 8 ∧ 275 < nc ∧ vp_in 1 4) ∧ lx_X9_gridLine nc C Q 238 [.ref (270), .long (x1), tf_z, tf_z] [.int (-(h.1 275 (1 : Int32).toNatClampNeg)), .int (y1), .ref (y0)] h
  try simp only [Ny0_0]
  exact ⟨⟨(by first | rfl | trivial), (show 270 < nc by omega)⟩, ⟨⟨(by first | rfl | trivial), (show 275 < nc by omega), (vp_in_iff.mpr (by decide))⟩, q⟩⟩
set_option maxRecDepth 100000 in
theorem go_X9_gridLine_238 {nc : Nat} {C : tf_C} {Q : tf_Q} {h : LH} (hn : 297 ≤ nc) {x1 : Int64} {y0 ny0 : Nat} {y1 : Int32} {y2 : Int32} (Ky0_0 : tf_K y0 = 8) (Ny0_0 : tf_N y0 = ny0) (By0 : y0 < nc) (q : (vp_in y1 ny0) ∧ Q (.int (1)) (tf_up h.1 y0 (y1 : Int32).toNatClampNeg y2, h.2)) : lx_X9_gridLine nc C Q 238 [.ref (270), .long (x1), tf_z, tf_z] [.int (y2), .int (y1), .ref (y0)] h := by
  refine tf_LW_go ?_
  show (tf_K y0 = 8 ∧ y0 < nc ∧ vp_in y1 (tf_N y0)) ∧ tf_rb 2 (1) ∧ Q (.int (1)) (tf_up h.1 y0 (y1 : Int32).toNatClampNeg y2, h.2)
  try simp only [Ny0_0]
  exact ⟨⟨Ky0_0, (show y0 < nc by omega), q.1⟩, ⟨(by first | rfl | trivial), q.2⟩⟩
abbrev lx_X9_orderLine (nc : Nat) (C : tf_C) (Q : tf_Q) : tf_X := tf_LW nc C (tf_F 7) (tf_M 7) (tf_I 7) (tf_Eh 19) 2 tb_X9_orderLine Q
set_option maxRecDepth 100000 in
theorem go_X9_orderLine_0 {nc : Nat} {C : tf_C} {Q : tf_Q} {h : LH} (hn : 297 ≤ nc) {x1 : Int64} (q : ((lg_cmp x1 1668246628) = (0 : Int32) → lx_X9_orderLine nc C Q 16 [.ref (270), .long (x1), tf_z, tf_z, tf_z, tf_z, tf_z, tf_z] [] h) ∧ (¬ (lg_cmp x1 1668246628) = (0 : Int32) → C 17 [.long (x1)] h (fun r g => lx_X9_orderLine nc C Q 12 [.ref (270), .long (x1), tf_z, tf_z, tf_z, tf_z, tf_z, tf_z] (r :: []) g))) : lx_X9_orderLine nc C Q 0 [.ref (270), .long (x1), tf_z, tf_z, tf_z, tf_z, tf_z, tf_z] [] h := by
  refine tf_LW_go ?_
  exact ⟨q.1, fun c1 => ⟨Nat.le_of_ble_eq_true rfl, Nat.le_of_ble_eq_true rfl, (q.2 c1)⟩⟩
theorem en_X9_orderLine {nc d : Nat} {Q : tf_Q} {h : LH} (hn : 297 ≤ nc) {x1 : Int64} (q : lx_X9_orderLine nc (tf_Cd nc d) Q 0 [.ref (270), .long (x1), tf_z, tf_z, tf_z, tf_z, tf_z, tf_z] [] h) : tf_Cd nc (d + 1) 19 [.ref (270), .long (x1)] h Q := by
  exact ⟨⟨Nat.le_of_ble_eq_true rfl, Or.inr ⟨rfl, (show 270 < nc by omega)⟩⟩, q⟩
set_option maxRecDepth 100000 in
theorem go_X9_orderLine_12 {nc : Nat} {C : tf_C} {Q : tf_Q} {h : LH} (hn : 297 ≤ nc) {x1 : Int64} {y0 : Int32} (q : (y0 = ((-1) : Int32) → lx_X9_orderLine nc C Q 20 [.ref (270), .long (x1), tf_z, tf_z, tf_z, tf_z, tf_z, tf_z] [] h) ∧ (¬ y0 = ((-1) : Int32) → lx_X9_orderLine nc C Q 16 [.ref (270), .long (x1), tf_z, tf_z, tf_z, tf_z, tf_z, tf_z] [] h)) : lx_X9_orderLine nc C Q 12 [.ref (270), .long (x1), tf_z, tf_z, tf_z, tf_z, tf_z, tf_z] [.int (y0)] h := by
  refine tf_LW_go ?_
  exact ⟨q.1, fun c1 => (q.2 c1)⟩
set_option maxRecDepth 100000 in
theorem go_X9_orderLine_16 {nc : Nat} {C : tf_C} {Q : tf_Q} {h : LH} (hn : 297 ≤ nc) {x1 : Int64} (q : lx_X9_orderLine nc C Q 21 [.ref (270), .long (x1), tf_z, tf_z, tf_z, tf_z, tf_z, tf_z] [.int (1)] h) : lx_X9_orderLine nc C Q 16 [.ref (270), .long (x1), tf_z, tf_z, tf_z, tf_z, tf_z, tf_z] [] h := by
  refine tf_LW_go ?_
  exact q
set_option maxRecDepth 100000 in
theorem go_X9_orderLine_20 {nc : Nat} {C : tf_C} {Q : tf_Q} {h : LH} (hn : 297 ≤ nc) {x1 : Int64} (q : lx_X9_orderLine nc C Q 21 [.ref (270), .long (x1), tf_z, tf_z, tf_z, tf_z, tf_z, tf_z] [.int (0)] h) : lx_X9_orderLine nc C Q 20 [.ref (270), .long (x1), tf_z, tf_z, tf_z, tf_z, tf_z, tf_z] [] h := by
  refine tf_LW_go ?_
  exact q
set_option maxRecDepth 100000 in
theorem go_X9_orderLine_21 {nc : Nat} {C : tf_C} {Q : tf_Q} {h : LH} (hn : 297 ≤ nc) {x1 : Int64} {y0 : Int32} (q : ((lg_cmp x1 482805706612) = (0 : Int32) → lx_X9_orderLine nc C Q 46 [.ref (270), .long (x1), tf_z, .int (y0), tf_z, tf_z, tf_z, tf_z] [] h) ∧ (¬ (lg_cmp x1 482805706612) = (0 : Int32) → ((lg_cmp x1 422726034283) = (0 : Int32) → lx_X9_orderLine nc C Q 46 [.ref (270), .long (x1), tf_z, .int (y0), tf_z, tf_z, tf_z, tf_z] [] h) ∧ (¬ (lg_cmp x1 422726034283) = (0 : Int32) → ((lg_cmp x1 1869636974) = (0 : Int32) → lx_X9_orderLine nc C Q 46 [.ref (270), .long (x1), tf_z, .int (y0), tf_z, tf_z, tf_z, tf_z] [] h) ∧ (¬ (lg_cmp x1 1869636974) = (0 : Int32) → lx_X9_orderLine nc C Q 50 [.ref (270), .long (x1), tf_z, .int (y0), tf_z, tf_z, tf_z, tf_z] [] h)))) : lx_X9_orderLine nc C Q 21 [.ref (270), .long (x1), tf_z, tf_z, tf_z, tf_z, tf_z, tf_z] [.int (y0)] h := by
  refine tf_LW_go ?_
  exact ⟨q.1, fun c3 => ⟨(q.2 c3).1, fun c2 => ⟨fun c1 => (((q.2 c3).2 c2).1 c1), ((q.2 c3).2 c2).2⟩⟩⟩
set_option maxRecDepth 100000 in
theorem go_X9_orderLine_46 {nc : Nat} {C : tf_C} {Q : tf_Q} {h : LH} (hn : 297 ≤ nc) {x1 : Int64} {x3 : Int32} (q : lx_X9_orderLine nc C Q 51 [.ref (270), .long (x1), tf_z, .int (x3), tf_z, tf_z, tf_z, tf_z] [.int (1)] h) : lx_X9_orderLine nc C Q 46 [.ref (270), .long (x1), tf_z, .int (x3), tf_z, tf_z, tf_z, tf_z] [] h := by
  refine tf_LW_go ?_
  exact q
set_option maxRecDepth 100000 in
theorem go_X9_orderLine_50 {nc : Nat} {C : tf_C} {Q : tf_Q} {h : LH} (hn : 297 ≤ nc) {x1 : Int64} {x3 : Int32} (q : lx_X9_orderLine nc C Q 51 [.ref (270), .long (x1), tf_z, .int (x3), tf_z, tf_z, tf_z, tf_z] [.int (0)] h) : lx_X9_orderLine nc C Q 50 [.ref (270), .long (x1), tf_z, .int (x3), tf_z, tf_z, tf_z, tf_z] [] h := by
  refine tf_LW_go ?_
  exact q
set_option maxRecDepth 100000 in
theorem go_X9_orderLine_51 {nc : Nat} {C : tf_C} {Q : tf_Q} {h : LH} (hn : 297 ≤ nc) {x1 : Int64} {x3 : Int32} {y0 : Int32} (q : ((lg_cmp x1 512869295470) = (0 : Int32) → lx_X9_orderLine nc C Q 77 [.ref (270), .long (x1), tf_z, .int (x3), .int (y0), tf_z, tf_z, tf_z] [] h) ∧ (¬ (lg_cmp x1 512869295470) = (0 : Int32) → ((lg_cmp x1 109299962636133) = (0 : Int32) → lx_X9_orderLine nc C Q 77 [.ref (270), .long (x1), tf_z, .int (x3), .int (y0), tf_z, tf_z, tf_z] [] h) ∧ (¬ (lg_cmp x1 109299962636133) = (0 : Int32) → ((lg_cmp x1 1734437230) = (0 : Int32) → lx_X9_orderLine nc C Q 77 [.ref (270), .long (x1), tf_z, .int (x3), .int (y0), tf_z, tf_z, tf_z] [] h) ∧ (¬ (lg_cmp x1 1734437230) = (0 : Int32) → lx_X9_orderLine nc C Q 81 [.ref (270), .long (x1), tf_z, .int (x3), .int (y0), tf_z, tf_z, tf_z] [] h)))) : lx_X9_orderLine nc C Q 51 [.ref (270), .long (x1), tf_z, .int (x3), tf_z, tf_z, tf_z, tf_z] [.int (y0)] h := by
  refine tf_LW_go ?_
  exact ⟨q.1, fun c3 => ⟨(q.2 c3).1, fun c2 => ⟨fun c1 => (((q.2 c3).2 c2).1 c1), ((q.2 c3).2 c2).2⟩⟩⟩
set_option maxRecDepth 100000 in
theorem go_X9_orderLine_77 {nc : Nat} {C : tf_C} {Q : tf_Q} {h : LH} (hn : 297 ≤ nc) {x1 : Int64} {x3 : Int32} {x4 : Int32} (q : lx_X9_orderLine nc C Q 82 [.ref (270), .long (x1), tf_z, .int (x3), .int (x4), tf_z, tf_z, tf_z] [.int (1)] h) : lx_X9_orderLine nc C Q 77 [.ref (270), .long (x1), tf_z, .int (x3), .int (x4), tf_z, tf_z, tf_z] [] h := by
  refine tf_LW_go ?_
  exact q
set_option maxRecDepth 100000 in
theorem go_X9_orderLine_81 {nc : Nat} {C : tf_C} {Q : tf_Q} {h : LH} (hn : 297 ≤ nc) {x1 : Int64} {x3 : Int32} {x4 : Int32} (q : lx_X9_orderLine nc C Q 82 [.ref (270), .long (x1), tf_z, .int (x3), .int (x4), tf_z, tf_z, tf_z] [.int (0)] h) : lx_X9_orderLine nc C Q 81 [.ref (270), .long (x1), tf_z, .int (x3), .int (x4), tf_z, tf_z, tf_z] [] h := by
  refine tf_LW_go ?_
  exact q
set_option maxRecDepth 100000 in
theorem go_X9_orderLine_82 {nc : Nat} {C : tf_C} {Q : tf_Q} {h : LH} (hn : 297 ≤ nc) {x1 : Int64} {x3 : Int32} {x4 : Int32} {y0 : Int32} (q : (x3 = (0 : Int32) → (x4 = (0 : Int32) → (y0 = (0 : Int32) → ((lg_cmp x1 495672977012) = (0 : Int32) → lx_X9_orderLine nc C Q 111 [.ref (270), .long (x1), tf_z, .int (x3), .int (x4), .int (y0), tf_z, tf_z] [] h) ∧ (¬ (lg_cmp x1 495672977012) = (0 : Int32) → C 11 [.ref (270)] h (fun r g => lx_X9_orderLine nc C Q 110 [.ref (270), .long (x1), tf_z, .int (x3), .int (x4), .int (y0), tf_z, tf_z] (r :: []) g))) ∧ (¬ y0 = (0 : Int32) → lx_X9_orderLine nc C Q 111 [.ref (270), .long (x1), tf_z, .int (x3), .int (x4), .int (y0), tf_z, tf_z] [] h)) ∧ (¬ x4 = (0 : Int32) → lx_X9_orderLine nc C Q 111 [.ref (270), .long (x1), tf_z, .int (x3), .int (x4), .int (y0), tf_z, tf_z] [] h)) ∧ (¬ x3 = (0 : Int32) → lx_X9_orderLine nc C Q 111 [.ref (270), .long (x1), tf_z, .int (x3), .int (x4), .int (y0), tf_z, tf_z] [] h)) : lx_X9_orderLine nc C Q 82 [.ref (270), .long (x1), tf_z, .int (x3), .int (x4), tf_z, tf_z, tf_z] [.int (y0)] h := by
  refine tf_LW_go ?_
  exact ⟨fun c4 => ⟨fun c3 => ⟨fun c2 => ⟨(((q.1 c4).1 c3).1 c2).1, fun c1 => ⟨Nat.le_of_ble_eq_true rfl, Nat.le_of_ble_eq_true rfl, ((((q.1 c4).1 c3).1 c2).2 c1)⟩⟩, ((q.1 c4).1 c3).2⟩, (q.1 c4).2⟩, q.2⟩
set_option maxRecDepth 100000 in
theorem go_X9_orderLine_110 {nc : Nat} {C : tf_C} {Q : tf_Q} {h : LH} (hn : 297 ≤ nc) {x1 : Int64} {x3 : Int32} {x4 : Int32} {x5 : Int32} {y0 : Int32} (q : (vp_nar .boolean (y0) = (y0)) ∧ Q (.int (y0)) h) : lx_X9_orderLine nc C Q 110 [.ref (270), .long (x1), tf_z, .int (x3), .int (x4), .int (x5), tf_z, tf_z] [.int (y0)] h := by
  refine tf_LW_go ?_
  exact q
set_option maxRecDepth 100000 in
theorem go_X9_orderLine_111 {nc : Nat} {C : tf_C} {Q : tf_Q} {h : LH} (hn : 297 ≤ nc) {x1 : Int64} {x3 : Int32} {x4 : Int32} {x5 : Int32} (q : C 10 [.ref (270)] h (fun r g => lx_X9_orderLine nc C Q 115 [.ref (270), .long (x1), tf_z, .int (x3), .int (x4), .int (x5), tf_z, tf_z] [] g)) : lx_X9_orderLine nc C Q 111 [.ref (270), .long (x1), tf_z, .int (x3), .int (x4), .int (x5), tf_z, tf_z] [] h := by
  refine tf_LW_go ?_
  exact ⟨Nat.le_of_ble_eq_true rfl, Nat.le_of_ble_eq_true rfl, q⟩
set_option maxRecDepth 100000 in
theorem go_X9_orderLine_115 {nc : Nat} {C : tf_C} {Q : tf_Q} {h : LH} (hn : 297 ≤ nc) {x1 : Int64} {x3 : Int32} {x4 : Int32} {x5 : Int32} (q : (x3 = (0 : Int32) → ((lg_cmp x1 482805706612) = (0 : Int32) → C 13 [.ref (270), .int (0), .int (1), .int (60)] (tf_up (tf_up h.1 275 (1 : Int32).toNatClampNeg 0) 275 (2 : Int32).toNatClampNeg 0, h.2) (fun r g => lx_X9_orderLine nc C Q 149 [.ref (270), .long (x1), tf_z, .int (x3), .int (x4), .int (x5), tf_z, tf_z] (r :: []) g)) ∧ (¬ (lg_cmp x1 482805706612) = (0 : Int32) → lx_X9_orderLine nc C Q 155 [.ref (270), .long (x1), tf_z, .int (x3), .int (x4), .int (x5), tf_z, tf_z] [] (tf_up (tf_up h.1 275 (1 : Int32).toNatClampNeg 0) 275 (2 : Int32).toNatClampNeg 0, h.2))) ∧ (¬ x3 = (0 : Int32) → lx_X9_orderLine nc C Q 188 [.ref (270), .long (x1), tf_z, .int (x3), .int (x4), .int (x5), tf_z, tf_z] [] (tf_up (tf_up h.1 275 (1 : Int32).toNatClampNeg 0) 275 (2 : Int32).toNatClampNeg 0, h.2))) : lx_X9_orderLine nc C Q 115 [.ref (270), .long (x1), tf_z, .int (x3), .int (x4), .int (x5), tf_z, tf_z] [] h := by
  refine tf_LW_go ?_
  exact ⟨⟨(by first | rfl | trivial), (show 270 < nc by omega)⟩, ⟨⟨(by first | rfl | trivial), (show 275 < nc by omega), (vp_in_iff.mpr (by decide))⟩, ⟨⟨(by first | rfl | trivial), (show 270 < nc by omega)⟩, ⟨⟨(by first | rfl | trivial), (show 275 < nc by omega), (vp_in_iff.mpr (by decide))⟩, ⟨fun c2 => ⟨fun c1 => ⟨Nat.le_of_ble_eq_true rfl, Nat.le_of_ble_eq_true rfl, ((q.1 c2).1 c1)⟩, (q.1 c2).2⟩, q.2⟩⟩⟩⟩⟩
set_option maxRecDepth 100000 in
theorem go_X9_orderLine_149 {nc : Nat} {C : tf_C} {Q : tf_Q} {h : LH} (hn : 297 ≤ nc) {x1 : Int64} {x3 : Int32} {x4 : Int32} {x5 : Int32} {y0 : Int32} (q : (y0 = (0 : Int32) → lx_X9_orderLine nc C Q 192 [.ref (270), .long (x1), tf_z, .int (x3), .int (x4), .int (x5), tf_z, tf_z] [] h) ∧ (¬ y0 = (0 : Int32) → lx_X9_orderLine nc C Q 188 [.ref (270), .long (x1), tf_z, .int (x3), .int (x4), .int (x5), tf_z, tf_z] [] h)) : lx_X9_orderLine nc C Q 149 [.ref (270), .long (x1), tf_z, .int (x3), .int (x4), .int (x5), tf_z, tf_z] [.int (y0)] h := by
  refine tf_LW_go ?_
  exact ⟨q.1, fun c1 => (q.2 c1)⟩
set_option maxRecDepth 100000 in
theorem go_X9_orderLine_155 {nc : Nat} {C : tf_C} {Q : tf_Q} {h : LH} (hn : 297 ≤ nc) {x1 : Int64} {x3 : Int32} {x4 : Int32} {x5 : Int32} (q : ((lg_cmp x1 495672977012) = (0 : Int32) → C 13 [.ref (270), .int (0), .int (0), .int (6)] h (fun r g => lx_X9_orderLine nc C Q 171 [.ref (270), .long (x1), tf_z, .int (x3), .int (x4), .int (x5), tf_z, tf_z] (r :: []) g)) ∧ (¬ (lg_cmp x1 495672977012) = (0 : Int32) → lx_X9_orderLine nc C Q 177 [.ref (270), .long (x1), tf_z, .int (x3), .int (x4), .int (x5), tf_z, tf_z] [] h)) : lx_X9_orderLine nc C Q 155 [.ref (270), .long (x1), tf_z, .int (x3), .int (x4), .int (x5), tf_z, tf_z] [] h := by
  refine tf_LW_go ?_
  exact ⟨fun c1 => ⟨Nat.le_of_ble_eq_true rfl, Nat.le_of_ble_eq_true rfl, (q.1 c1)⟩, q.2⟩
set_option maxRecDepth 100000 in
theorem go_X9_orderLine_171 {nc : Nat} {C : tf_C} {Q : tf_Q} {h : LH} (hn : 297 ≤ nc) {x1 : Int64} {x3 : Int32} {x4 : Int32} {x5 : Int32} {y0 : Int32} (q : (y0 = (0 : Int32) → lx_X9_orderLine nc C Q 192 [.ref (270), .long (x1), tf_z, .int (x3), .int (x4), .int (x5), tf_z, tf_z] [] h) ∧ (¬ y0 = (0 : Int32) → lx_X9_orderLine nc C Q 188 [.ref (270), .long (x1), tf_z, .int (x3), .int (x4), .int (x5), tf_z, tf_z] [] h)) : lx_X9_orderLine nc C Q 171 [.ref (270), .long (x1), tf_z, .int (x3), .int (x4), .int (x5), tf_z, tf_z] [.int (y0)] h := by
  refine tf_LW_go ?_
  exact ⟨q.1, fun c1 => (q.2 c1)⟩
set_option maxRecDepth 100000 in
theorem go_X9_orderLine_177 {nc : Nat} {C : tf_C} {Q : tf_Q} {h : LH} (hn : 297 ≤ nc) {x1 : Int64} {x3 : Int32} {x4 : Int32} {x5 : Int32} (q : C 13 [.ref (270), .int (0), .int (0), .int (13)] h (fun r g => lx_X9_orderLine nc C Q 185 [.ref (270), .long (x1), tf_z, .int (x3), .int (x4), .int (x5), tf_z, tf_z] (r :: []) g)) : lx_X9_orderLine nc C Q 177 [.ref (270), .long (x1), tf_z, .int (x3), .int (x4), .int (x5), tf_z, tf_z] [] h := by
  refine tf_LW_go ?_
  exact ⟨Nat.le_of_ble_eq_true rfl, Nat.le_of_ble_eq_true rfl, q⟩
set_option maxRecDepth 100000 in
theorem go_X9_orderLine_185 {nc : Nat} {C : tf_C} {Q : tf_Q} {h : LH} (hn : 297 ≤ nc) {x1 : Int64} {x3 : Int32} {x4 : Int32} {x5 : Int32} {y0 : Int32} (q : (y0 = (0 : Int32) → lx_X9_orderLine nc C Q 192 [.ref (270), .long (x1), tf_z, .int (x3), .int (x4), .int (x5), tf_z, tf_z] [] h) ∧ (¬ y0 = (0 : Int32) → lx_X9_orderLine nc C Q 188 [.ref (270), .long (x1), tf_z, .int (x3), .int (x4), .int (x5), tf_z, tf_z] [] h)) : lx_X9_orderLine nc C Q 185 [.ref (270), .long (x1), tf_z, .int (x3), .int (x4), .int (x5), tf_z, tf_z] [.int (y0)] h := by
  refine tf_LW_go ?_
  exact ⟨q.1, fun c1 => (q.2 c1)⟩
set_option maxRecDepth 100000 in
theorem go_X9_orderLine_188 {nc : Nat} {C : tf_C} {Q : tf_Q} {h : LH} (hn : 297 ≤ nc) {x1 : Int64} {x3 : Int32} {x4 : Int32} {x5 : Int32} (q : lx_X9_orderLine nc C Q 193 [.ref (270), .long (x1), tf_z, .int (x3), .int (x4), .int (x5), tf_z, tf_z] [.int (1)] h) : lx_X9_orderLine nc C Q 188 [.ref (270), .long (x1), tf_z, .int (x3), .int (x4), .int (x5), tf_z, tf_z] [] h := by
  refine tf_LW_go ?_
  exact q
set_option maxRecDepth 100000 in
theorem go_X9_orderLine_192 {nc : Nat} {C : tf_C} {Q : tf_Q} {h : LH} (hn : 297 ≤ nc) {x1 : Int64} {x3 : Int32} {x4 : Int32} {x5 : Int32} (q : lx_X9_orderLine nc C Q 193 [.ref (270), .long (x1), tf_z, .int (x3), .int (x4), .int (x5), tf_z, tf_z] [.int (0)] h) : lx_X9_orderLine nc C Q 192 [.ref (270), .long (x1), tf_z, .int (x3), .int (x4), .int (x5), tf_z, tf_z] [] h := by
  refine tf_LW_go ?_
  exact q
set_option maxRecDepth 100000 in
theorem go_X9_orderLine_193 {nc : Nat} {C : tf_C} {Q : tf_Q} {h : LH} (hn : 297 ≤ nc) {x1 : Int64} {x3 : Int32} {x4 : Int32} {x5 : Int32} {y0 : Int32} (q : (y0 = (0 : Int32) → lx_X9_orderLine nc C Q 246 [.ref (270), .long (x1), tf_z, .int (x3), .int (x4), .int (x5), .int (y0), tf_z] [] h) ∧ (¬ y0 = (0 : Int32) → (x3 = (0 : Int32) → (x4 = (0 : Int32) → ((lg_cmp x1 495672977012) = (0 : Int32) → C 13 [.ref (270), .int (1), .int (0), .int (6)] h (fun r g => lx_X9_orderLine nc C Q 225 [.ref (270), .long (x1), tf_z, .int (x3), .int (x4), .int (x5), .int (y0), tf_z] (r :: []) g)) ∧ (¬ (lg_cmp x1 495672977012) = (0 : Int32) → lx_X9_orderLine nc C Q 231 [.ref (270), .long (x1), tf_z, .int (x3), .int (x4), .int (x5), .int (y0), tf_z] [] h)) ∧ (¬ x4 = (0 : Int32) → lx_X9_orderLine nc C Q 242 [.ref (270), .long (x1), tf_z, .int (x3), .int (x4), .int (x5), .int (y0), tf_z] [] h)) ∧ (¬ x3 = (0 : Int32) → lx_X9_orderLine nc C Q 242 [.ref (270), .long (x1), tf_z, .int (x3), .int (x4), .int (x5), .int (y0), tf_z] [] h))) : lx_X9_orderLine nc C Q 193 [.ref (270), .long (x1), tf_z, .int (x3), .int (x4), .int (x5), tf_z, tf_z] [.int (y0)] h := by
  refine tf_LW_go ?_
  exact ⟨q.1, fun c4 => ⟨fun c3 => ⟨fun c2 => ⟨fun c1 => ⟨Nat.le_of_ble_eq_true rfl, Nat.le_of_ble_eq_true rfl, ((((q.2 c4).1 c3).1 c2).1 c1)⟩, (((q.2 c4).1 c3).1 c2).2⟩, ((q.2 c4).1 c3).2⟩, (q.2 c4).2⟩⟩
set_option maxRecDepth 100000 in
theorem go_X9_orderLine_225 {nc : Nat} {C : tf_C} {Q : tf_Q} {h : LH} (hn : 297 ≤ nc) {x1 : Int64} {x3 : Int32} {x4 : Int32} {x5 : Int32} {x6 : Int32} {y0 : Int32} (q : (y0 = (0 : Int32) → lx_X9_orderLine nc C Q 246 [.ref (270), .long (x1), tf_z, .int (x3), .int (x4), .int (x5), .int (x6), tf_z] [] h) ∧ (¬ y0 = (0 : Int32) → lx_X9_orderLine nc C Q 242 [.ref (270), .long (x1), tf_z, .int (x3), .int (x4), .int (x5), .int (x6), tf_z] [] h)) : lx_X9_orderLine nc C Q 225 [.ref (270), .long (x1), tf_z, .int (x3), .int (x4), .int (x5), .int (x6), tf_z] [.int (y0)] h := by
  refine tf_LW_go ?_
  exact ⟨q.1, fun c1 => (q.2 c1)⟩
set_option maxRecDepth 100000 in
theorem go_X9_orderLine_231 {nc : Nat} {C : tf_C} {Q : tf_Q} {h : LH} (hn : 297 ≤ nc) {x1 : Int64} {x3 : Int32} {x4 : Int32} {x5 : Int32} {x6 : Int32} (q : C 13 [.ref (270), .int (1), .int (0), .int (99)] h (fun r g => lx_X9_orderLine nc C Q 239 [.ref (270), .long (x1), tf_z, .int (x3), .int (x4), .int (x5), .int (x6), tf_z] (r :: []) g)) : lx_X9_orderLine nc C Q 231 [.ref (270), .long (x1), tf_z, .int (x3), .int (x4), .int (x5), .int (x6), tf_z] [] h := by
  refine tf_LW_go ?_
  exact ⟨Nat.le_of_ble_eq_true rfl, Nat.le_of_ble_eq_true rfl, q⟩
set_option maxRecDepth 100000 in
theorem go_X9_orderLine_239 {nc : Nat} {C : tf_C} {Q : tf_Q} {h : LH} (hn : 297 ≤ nc) {x1 : Int64} {x3 : Int32} {x4 : Int32} {x5 : Int32} {x6 : Int32} {y0 : Int32} (q : (y0 = (0 : Int32) → lx_X9_orderLine nc C Q 246 [.ref (270), .long (x1), tf_z, .int (x3), .int (x4), .int (x5), .int (x6), tf_z] [] h) ∧ (¬ y0 = (0 : Int32) → lx_X9_orderLine nc C Q 242 [.ref (270), .long (x1), tf_z, .int (x3), .int (x4), .int (x5), .int (x6), tf_z] [] h)) : lx_X9_orderLine nc C Q 239 [.ref (270), .long (x1), tf_z, .int (x3), .int (x4), .int (x5), .int (x6), tf_z] [.int (y0)] h := by
  refine tf_LW_go ?_
  exact ⟨q.1, fun c1 => (q.2 c1)⟩
set_option maxRecDepth 100000 in
theorem go_X9_orderLine_242 {nc : Nat} {C : tf_C} {Q : tf_Q} {h : LH} (hn : 297 ≤ nc) {x1 : Int64} {x3 : Int32} {x4 : Int32} {x5 : Int32} {x6 : Int32} (q : lx_X9_orderLine nc C Q 247 [.ref (270), .long (x1), tf_z, .int (x3), .int (x4), .int (x5), .int (x6), tf_z] [.int (1)] h) : lx_X9_orderLine nc C Q 242 [.ref (270), .long (x1), tf_z, .int (x3), .int (x4), .int (x5), .int (x6), tf_z] [] h := by
  refine tf_LW_go ?_
  exact q
set_option maxRecDepth 100000 in
theorem go_X9_orderLine_246 {nc : Nat} {C : tf_C} {Q : tf_Q} {h : LH} (hn : 297 ≤ nc) {x1 : Int64} {x3 : Int32} {x4 : Int32} {x5 : Int32} {x6 : Int32} (q : lx_X9_orderLine nc C Q 247 [.ref (270), .long (x1), tf_z, .int (x3), .int (x4), .int (x5), .int (x6), tf_z] [.int (0)] h) : lx_X9_orderLine nc C Q 246 [.ref (270), .long (x1), tf_z, .int (x3), .int (x4), .int (x5), .int (x6), tf_z] [] h := by
  refine tf_LW_go ?_
  exact q
set_option maxRecDepth 100000 in
theorem go_X9_orderLine_247 {nc : Nat} {C : tf_C} {Q : tf_Q} {h : LH} (hn : 297 ≤ nc) {x1 : Int64} {x3 : Int32} {x4 : Int32} {x5 : Int32} {x6 : Int32} {y0 : Int32} (q : (y0 = (0 : Int32) → lx_X9_orderLine nc C Q 277 [.ref (270), .long (x1), tf_z, .int (x3), .int (x4), .int (x5), .int (y0), tf_z] [] h) ∧ (¬ y0 = (0 : Int32) → ((lg_cmp x1 495672977012) = (0 : Int32) → C 13 [.ref (270), .int (2), .int (1), .int (99)] h (fun r g => lx_X9_orderLine nc C Q 270 [.ref (270), .long (x1), tf_z, .int (x3), .int (x4), .int (x5), .int (y0), tf_z] (r :: []) g)) ∧ (¬ (lg_cmp x1 495672977012) = (0 : Int32) → lx_X9_orderLine nc C Q 273 [.ref (270), .long (x1), tf_z, .int (x3), .int (x4), .int (x5), .int (y0), tf_z] [] h))) : lx_X9_orderLine nc C Q 247 [.ref (270), .long (x1), tf_z, .int (x3), .int (x4), .int (x5), .int (x6), tf_z] [.int (y0)] h := by
  refine tf_LW_go ?_
  exact ⟨q.1, fun c2 => ⟨fun c1 => ⟨Nat.le_of_ble_eq_true rfl, Nat.le_of_ble_eq_true rfl, ((q.2 c2).1 c1)⟩, (q.2 c2).2⟩⟩
set_option maxRecDepth 100000 in
theorem go_X9_orderLine_270 {nc : Nat} {C : tf_C} {Q : tf_Q} {h : LH} (hn : 297 ≤ nc) {x1 : Int64} {x3 : Int32} {x4 : Int32} {x5 : Int32} {x6 : Int32} {y0 : Int32} (q : (y0 = (0 : Int32) → lx_X9_orderLine nc C Q 277 [.ref (270), .long (x1), tf_z, .int (x3), .int (x4), .int (x5), .int (x6), tf_z] [] h) ∧ (¬ y0 = (0 : Int32) → lx_X9_orderLine nc C Q 273 [.ref (270), .long (x1), tf_z, .int (x3), .int (x4), .int (x5), .int (x6), tf_z] [] h)) : lx_X9_orderLine nc C Q 270 [.ref (270), .long (x1), tf_z, .int (x3), .int (x4), .int (x5), .int (x6), tf_z] [.int (y0)] h := by
  refine tf_LW_go ?_
  exact ⟨q.1, fun c1 => (q.2 c1)⟩
set_option maxRecDepth 100000 in
theorem go_X9_orderLine_273 {nc : Nat} {C : tf_C} {Q : tf_Q} {h : LH} (hn : 297 ≤ nc) {x1 : Int64} {x3 : Int32} {x4 : Int32} {x5 : Int32} {x6 : Int32} (q : lx_X9_orderLine nc C Q 278 [.ref (270), .long (x1), tf_z, .int (x3), .int (x4), .int (x5), .int (x6), tf_z] [.int (1)] h) : lx_X9_orderLine nc C Q 273 [.ref (270), .long (x1), tf_z, .int (x3), .int (x4), .int (x5), .int (x6), tf_z] [] h := by
  refine tf_LW_go ?_
  exact q
set_option maxRecDepth 100000 in
theorem go_X9_orderLine_277 {nc : Nat} {C : tf_C} {Q : tf_Q} {h : LH} (hn : 297 ≤ nc) {x1 : Int64} {x3 : Int32} {x4 : Int32} {x5 : Int32} {x6 : Int32} (q : lx_X9_orderLine nc C Q 278 [.ref (270), .long (x1), tf_z, .int (x3), .int (x4), .int (x5), .int (x6), tf_z] [.int (0)] h) : lx_X9_orderLine nc C Q 277 [.ref (270), .long (x1), tf_z, .int (x3), .int (x4), .int (x5), .int (x6), tf_z] [] h := by
  refine tf_LW_go ?_
  exact q
set_option maxRecDepth 100000 in
theorem go_X9_orderLine_278 {nc : Nat} {C : tf_C} {Q : tf_Q} {h : LH} (hn : 297 ≤ nc) {x1 : Int64} {x3 : Int32} {x4 : Int32} {x5 : Int32} {x6 : Int32} {y0 : Int32} (q : (vp_in (h.1 270 23) 100) ∧ lx_X9_orderLine nc C Q 293 [.ref (270), .long (x1), tf_z, .int (x3), .int (x4), .int (x5), .int (y0), .int (0)] [] (h.1, tf_upL h.2 279 (h.1 270 23 : Int32).toNatClampNeg x1)) : lx_X9_orderLine nc C Q 278 [.ref (270), .long (x1), tf_z, .int (x3), .int (x4), .int (x5), .int (x6), tf_z] [.int (y0)] h := by
  refine tf_LW_go ?_
  exact ⟨⟨(by first | rfl | trivial), (show 270 < nc by omega)⟩, ⟨⟨(by first | rfl | trivial), (show 270 < nc by omega)⟩, ⟨⟨(by first | rfl | trivial), (show 279 < nc by omega), q.1⟩, q.2⟩⟩⟩
set_option maxRecDepth 100000 in
theorem go_X9_orderLine_293 {nc : Nat} {C : tf_C} {Q : tf_Q} {h : LH} (hn : 297 ≤ nc) {x1 : Int64} {x3 : Int32} {x4 : Int32} {x5 : Int32} {x6 : Int32} {x7 : Int32} (q : ((3 : Int32) ≤ x7 → lx_X9_orderLine nc C Q 326 [.ref (270), .long (x1), tf_z, .int (x3), .int (x4), .int (x5), .int (x6), .int (x7)] [] h) ∧ (¬ (3 : Int32) ≤ x7 → (vp_in x7 4) ∧ (vp_in ((4 * (h.1 270 23)) + x7) 400) ∧ lx_X9_orderLine nc C Q 293 [.ref (270), .long (x1), tf_z, .int (x3), .int (x4), .int (x5), .int (x6), .int (x7 + 1)] [] (tf_up h.1 280 ((4 * (h.1 270 23)) + x7 : Int32).toNatClampNeg (h.1 275 (x7 : Int32).toNatClampNeg), h.2))) : lx_X9_orderLine nc C Q 293 [.ref (270), .long (x1), tf_z, .int (x3), .int (x4), .int (x5), .int (x6), .int (x7)] [] h := by
  refine tf_LW_go ?_
  exact ⟨q.1, fun c1 => ⟨⟨(by first | rfl | trivial), (show 270 < nc by omega)⟩, ⟨⟨(by first | rfl | trivial), (show 270 < nc by omega)⟩, ⟨⟨(by first | rfl | trivial), (show 270 < nc by omega)⟩, ⟨⟨(by first | rfl | trivial), (show 275 < nc by omega), (q.2 c1).1⟩, ⟨⟨(by first | rfl | trivial), (show 280 < nc by omega), (q.2 c1).2.1⟩, (q.2 c1).2.2⟩⟩⟩⟩⟩⟩
set_option maxRecDepth 100000 in
theorem go_X9_orderLine_326 {nc : Nat} {C : tf_C} {Q : tf_Q} {h : LH} (hn : 297 ≤ nc) {x1 : Int64} {x3 : Int32} {x4 : Int32} {x5 : Int32} {x6 : Int32} {x7 : Int32} (q : (vp_nar .boolean (x6) = (x6)) ∧ Q (.int (x6)) (tf_up h.1 270 23 ((h.1 270 23) + 1), h.2)) : lx_X9_orderLine nc C Q 326 [.ref (270), .long (x1), tf_z, .int (x3), .int (x4), .int (x5), .int (x6), .int (x7)] [] h := by
  refine tf_LW_go ?_
  exact ⟨⟨(by first | rfl | trivial), (show 270 < nc by omega)⟩, ⟨⟨(by first | rfl | trivial), (show 270 < nc by omega), (by first | rfl | trivial)⟩, q⟩⟩
abbrev lx_X9_allLines (nc : Nat) (C : tf_C) (Q : tf_Q) : tf_X := tf_LW nc C (tf_F 7) (tf_M 7) (tf_I 7) (tf_Eh 20) 2 tb_X9_allLines Q
set_option maxRecDepth 100000 in
theorem go_X9_allLines_0 {nc : Nat} {C : tf_C} {Q : tf_Q} {h : LH} (hn : 297 ≤ nc) {x1 : Int32} (q : C 10 [.ref (270)] (tf_up (tf_up (tf_up (tf_up (tf_up h.1 270 7 (h.1 271 (170 : Int32).toNatClampNeg)) 271 (170 : Int32).toNatClampNeg 0) 270 13 (-1)) 270 6 0) 270 23 0, h.2) (fun r g => lx_X9_allLines nc C Q 40 [.ref (270), .int (x1), tf_z, tf_z, tf_z] [] g)) : lx_X9_allLines nc C Q 0 [.ref (270), .int (x1), tf_z, tf_z, tf_z] [] h := by
  refine tf_LW_go ?_
  exact ⟨⟨(by first | rfl | trivial), (show 270 < nc by omega)⟩, ⟨⟨(by first | rfl | trivial), (show 271 < nc by omega), (vp_in_iff.mpr (by decide))⟩, ⟨⟨(by first | rfl | trivial), (show 270 < nc by omega), (by first | rfl | trivial)⟩, ⟨⟨(by first | rfl | trivial), (show 270 < nc by omega)⟩, ⟨⟨(by first | rfl | trivial), (show 271 < nc by omega), (vp_in_iff.mpr (by decide))⟩, ⟨⟨(by first | rfl | trivial), (show 270 < nc by omega), (by first | rfl | trivial)⟩, ⟨⟨(by first | rfl | trivial), (show 270 < nc by omega), (by first | rfl | trivial)⟩, ⟨⟨(by first | rfl | trivial), (show 270 < nc by omega), (by first | rfl | trivial)⟩, ⟨Nat.le_of_ble_eq_true rfl, Nat.le_of_ble_eq_true rfl, q⟩⟩⟩⟩⟩⟩⟩⟩⟩
theorem en_X9_allLines {nc d : Nat} {Q : tf_Q} {h : LH} (hn : 297 ≤ nc) {x1 : Int32} (q : lx_X9_allLines nc (tf_Cd nc d) Q 0 [.ref (270), .int (x1), tf_z, tf_z, tf_z] [] h) : tf_Cd nc (d + 1) 20 [.ref (270), .int (x1)] h Q := by
  exact ⟨⟨Nat.le_of_ble_eq_true rfl, Or.inr ⟨rfl, (show 270 < nc by omega)⟩⟩, q⟩
set_option maxRecDepth 100000 in
theorem go_X9_allLines_40 {nc : Nat} {C : tf_C} {Q : tf_Q} {h : LH} (hn : 297 ≤ nc) {x1 : Int32} (q : lx_X9_allLines nc C Q 42 [.ref (270), .int (x1), .int (1), tf_z, tf_z] [] h) : lx_X9_allLines nc C Q 40 [.ref (270), .int (x1), tf_z, tf_z, tf_z] [] h := by
  refine tf_LW_go ?_
  exact q
set_option maxRecDepth 100000 in
theorem go_X9_allLines_42 {nc : Nat} {C : tf_C} {Q : tf_Q} {h : LH} (hn : 297 ≤ nc) {x1 : Int32} {x2 : Int32} {x3 : Value} (q : (x2 = (0 : Int32) → lx_X9_allLines nc C Q 116 [.ref (270), .int (x1), .int (x2), x3, tf_z] [] h) ∧ (¬ x2 = (0 : Int32) → ((h.1 270 9) = (0 : Int32) → lx_X9_allLines nc C Q 116 [.ref (270), .int (x1), .int (x2), x3, tf_z] [] h) ∧ (¬ (h.1 270 9) = (0 : Int32) → ((h.1 270 9) = (2 : Int32) → lx_X9_allLines nc C Q 69 [.ref (270), .int (x1), .int (x2), x3, tf_z] [.long (h.2 270 11)] h) ∧ (¬ (h.1 270 9) = (2 : Int32) → lx_X9_allLines nc C Q 68 [.ref (270), .int (x1), .int (x2), x3, tf_z] [] h)))) : lx_X9_allLines nc C Q 42 [.ref (270), .int (x1), .int (x2), x3, tf_z] [] h := by
  refine tf_LW_go ?_
  exact ⟨q.1, fun c3 => ⟨⟨(by first | rfl | trivial), (show 270 < nc by omega)⟩, ⟨(q.2 c3).1, fun c2 => ⟨⟨(by first | rfl | trivial), (show 270 < nc by omega)⟩, ⟨fun c1 => ⟨⟨(by first | rfl | trivial), (show 270 < nc by omega)⟩, (((q.2 c3).2 c2).1 c1)⟩, ((q.2 c3).2 c2).2⟩⟩⟩⟩⟩
set_option maxRecDepth 100000 in
theorem go_X9_allLines_68 {nc : Nat} {C : tf_C} {Q : tf_Q} {h : LH} (hn : 297 ≤ nc) {x1 : Int32} {x2 : Int32} {x3 : Value} (q : lx_X9_allLines nc C Q 69 [.ref (270), .int (x1), .int (x2), x3, tf_z] [.long (0)] h) : lx_X9_allLines nc C Q 68 [.ref (270), .int (x1), .int (x2), x3, tf_z] [] h := by
  refine tf_LW_go ?_
  exact q
set_option maxRecDepth 100000 in
theorem go_X9_allLines_69 {nc : Nat} {C : tf_C} {Q : tf_Q} {h : LH} (hn : 297 ≤ nc) {x1 : Int32} {x2 : Int32} {x3 : Value} {y0 : Int64} (q : (x1 = (0 : Int32) → lx_X9_allLines nc C Q 82 [.ref (270), .int (x1), .int (x2), .long (y0), tf_z] [] h) ∧ (¬ x1 = (0 : Int32) → C 18 [.ref (270), .long (y0)] h (fun r g => lx_X9_allLines nc C Q 79 [.ref (270), .int (x1), .int (x2), .long (y0), tf_z] (r :: []) g))) : lx_X9_allLines nc C Q 69 [.ref (270), .int (x1), .int (x2), x3, tf_z] [.long (y0)] h := by
  refine tf_LW_go ?_
  exact ⟨q.1, fun c1 => ⟨Nat.le_of_ble_eq_true rfl, Nat.le_of_ble_eq_true rfl, (q.2 c1)⟩⟩
set_option maxRecDepth 100000 in
theorem go_X9_allLines_79 {nc : Nat} {C : tf_C} {Q : tf_Q} {h : LH} (hn : 297 ≤ nc) {x1 : Int32} {x2 : Int32} {x3 : Int64} {y0 : Int32} (q : lx_X9_allLines nc C Q 87 [.ref (270), .int (x1), .int (x2), .long (x3), tf_z] [.int (y0)] h) : lx_X9_allLines nc C Q 79 [.ref (270), .int (x1), .int (x2), .long (x3), tf_z] [.int (y0)] h := by
  refine tf_LW_go ?_
  exact q
set_option maxRecDepth 100000 in
theorem go_X9_allLines_82 {nc : Nat} {C : tf_C} {Q : tf_Q} {h : LH} (hn : 297 ≤ nc) {x1 : Int32} {x2 : Int32} {x3 : Int64} (q : C 19 [.ref (270), .long (x3)] h (fun r g => lx_X9_allLines nc C Q 87 [.ref (270), .int (x1), .int (x2), .long (x3), tf_z] (r :: []) g)) : lx_X9_allLines nc C Q 82 [.ref (270), .int (x1), .int (x2), .long (x3), tf_z] [] h := by
  refine tf_LW_go ?_
  exact ⟨Nat.le_of_ble_eq_true rfl, Nat.le_of_ble_eq_true rfl, q⟩
set_option maxRecDepth 100000 in
theorem go_X9_allLines_87 {nc : Nat} {C : tf_C} {Q : tf_Q} {h : LH} (hn : 297 ≤ nc) {x1 : Int32} {x2 : Int32} {x3 : Int64} {y0 : Int32} (q : (y0 = (0 : Int32) → lx_X9_allLines nc C Q 105 [.ref (270), .int (x1), .int (y0), .long (x3), tf_z] [] h) ∧ (¬ y0 = (0 : Int32) → ((h.1 270 9) = (4 : Int32) → lx_X9_allLines nc C Q 105 [.ref (270), .int (x1), .int (y0), .long (x3), tf_z] [] h) ∧ (¬ (h.1 270 9) = (4 : Int32) → C 11 [.ref (270)] h (fun r g => lx_X9_allLines nc C Q 104 [.ref (270), .int (x1), .int (y0), .long (x3), tf_z] (r :: []) g)))) : lx_X9_allLines nc C Q 87 [.ref (270), .int (x1), .int (x2), .long (x3), tf_z] [.int (y0)] h := by
  refine tf_LW_go ?_
  exact ⟨q.1, fun c2 => ⟨⟨(by first | rfl | trivial), (show 270 < nc by omega)⟩, ⟨(q.2 c2).1, fun c1 => ⟨Nat.le_of_ble_eq_true rfl, Nat.le_of_ble_eq_true rfl, ((q.2 c2).2 c1)⟩⟩⟩⟩
set_option maxRecDepth 100000 in
theorem go_X9_allLines_104 {nc : Nat} {C : tf_C} {Q : tf_Q} {h : LH} (hn : 297 ≤ nc) {x1 : Int32} {x2 : Int32} {x3 : Int64} {y0 : Int32} (q : lx_X9_allLines nc C Q 105 [.ref (270), .int (x1), .int (y0), .long (x3), tf_z] [] h) : lx_X9_allLines nc C Q 104 [.ref (270), .int (x1), .int (x2), .long (x3), tf_z] [.int (y0)] h := by
  refine tf_LW_go ?_
  exact q
set_option maxRecDepth 100000 in
theorem go_X9_allLines_105 {nc : Nat} {C : tf_C} {Q : tf_Q} {h : LH} (hn : 297 ≤ nc) {x1 : Int32} {x2 : Int32} {x3 : Int64} (q : (x2 = (0 : Int32) → lx_X9_allLines nc C Q 113 [.ref (270), .int (x1), .int (x2), .long (x3), tf_z] [] h) ∧ (¬ x2 = (0 : Int32) → C 10 [.ref (270)] h (fun r g => lx_X9_allLines nc C Q 113 [.ref (270), .int (x1), .int (x2), .long (x3), tf_z] [] g))) : lx_X9_allLines nc C Q 105 [.ref (270), .int (x1), .int (x2), .long (x3), tf_z] [] h := by
  refine tf_LW_go ?_
  exact ⟨q.1, fun c1 => ⟨Nat.le_of_ble_eq_true rfl, Nat.le_of_ble_eq_true rfl, (q.2 c1)⟩⟩
set_option maxRecDepth 100000 in
theorem go_X9_allLines_113 {nc : Nat} {C : tf_C} {Q : tf_Q} {h : LH} (hn : 297 ≤ nc) {x1 : Int32} {x2 : Int32} {x3 : Int64} (q : lx_X9_allLines nc C Q 42 [.ref (270), .int (x1), .int (x2), .long (x3), tf_z] [] h) : lx_X9_allLines nc C Q 113 [.ref (270), .int (x1), .int (x2), .long (x3), tf_z] [] h := by
  refine tf_LW_go ?_
  exact q
set_option maxRecDepth 100000 in
theorem go_X9_allLines_116 {nc : Nat} {C : tf_C} {Q : tf_Q} {h : LH} (hn : 297 ≤ nc) {x1 : Int32} {x2 : Int32} {x3 : Value} (q : (vp_nar .boolean (x2) = (x2)) ∧ Q (.int (x2)) h) : lx_X9_allLines nc C Q 116 [.ref (270), .int (x1), .int (x2), x3, tf_z] [] h := by
  refine tf_LW_go ?_
  exact q
abbrev lx_X9_missing (nc : Nat) (C : tf_C) (Q : tf_Q) : tf_X := tf_LW nc C (tf_F 7) (tf_M 7) (tf_I 7) (tf_Eh 21) 1 tb_X9_missing Q
set_option maxRecDepth 100000 in
theorem go_X9_missing_0 {nc : Nat} {C : tf_C} {Q : tf_Q} {h : LH} (hn : 297 ≤ nc) (q : lx_X9_missing nc C Q 7 [.ref (270), .int ((-1)), .int (h.1 270 18)] [] h) : lx_X9_missing nc C Q 0 [.ref (270), tf_z, tf_z] [] h := by
  refine tf_LW_go ?_
  exact ⟨⟨(by first | rfl | trivial), (show 270 < nc by omega)⟩, q⟩
theorem en_X9_missing {nc d : Nat} {Q : tf_Q} {h : LH} (hn : 297 ≤ nc) (q : lx_X9_missing nc (tf_Cd nc d) Q 0 [.ref (270), tf_z, tf_z] [] h) : tf_Cd nc (d + 1) 21 [.ref (270)] h Q := by
  exact ⟨⟨Nat.le_of_ble_eq_true rfl, Or.inr ⟨rfl, (show 270 < nc by omega)⟩⟩, q⟩
set_option maxRecDepth 100000 in
theorem go_X9_missing_7 {nc : Nat} {C : tf_C} {Q : tf_Q} {h : LH} (hn : 297 ≤ nc) {x1 : Int32} {x2 : Int32} (q : ((7 : Int32) ≤ x2 → lx_X9_missing nc C Q 55 [.ref (270), .int (x1), .int (x2)] [] h) ∧ (¬ (7 : Int32) ≤ x2 → (vp_in x2 7) ∧ ((h.1 278 (x2 : Int32).toNatClampNeg) = ((-1) : Int32) → lx_X9_missing nc C Q 47 [.ref (270), .int (x1), .int (x2)] [] h) ∧ (¬ (h.1 278 (x2 : Int32).toNatClampNeg) = ((-1) : Int32) → (x1 = ((-1) : Int32) → lx_X9_missing nc C Q 38 [.ref (270), .int (x1), .int (x2)] [] h) ∧ (¬ x1 = ((-1) : Int32) → (vp_in x2 7) ∧ (x1 ≤ (h.1 278 (x2 : Int32).toNatClampNeg) → lx_X9_missing nc C Q 47 [.ref (270), .int (x1), .int (x2)] [] h) ∧ (¬ x1 ≤ (h.1 278 (x2 : Int32).toNatClampNeg) → lx_X9_missing nc C Q 38 [.ref (270), .int (x1), .int (x2)] [] h))))) : lx_X9_missing nc C Q 7 [.ref (270), .int (x1), .int (x2)] [] h := by
  refine tf_LW_go ?_
  exact ⟨q.1, fun c4 => ⟨⟨(by first | rfl | trivial), (show 270 < nc by omega)⟩, ⟨⟨(by first | rfl | trivial), (show 278 < nc by omega), (q.2 c4).1⟩, ⟨(q.2 c4).2.1, fun c3 => ⟨((q.2 c4).2.2 c3).1, fun c2 => ⟨⟨(by first | rfl | trivial), (show 270 < nc by omega)⟩, ⟨⟨(by first | rfl | trivial), (show 278 < nc by omega), (((q.2 c4).2.2 c3).2 c2).1⟩, ⟨(((q.2 c4).2.2 c3).2 c2).2.1, fun c1 => ((((q.2 c4).2.2 c3).2 c2).2.2 c1)⟩⟩⟩⟩⟩⟩⟩⟩
set_option maxRecDepth 100000 in
theorem go_X9_missing_38 {nc : Nat} {C : tf_C} {Q : tf_Q} {h : LH} (hn : 297 ≤ nc) {x1 : Int32} {x2 : Int32} (q : (vp_in x2 7) ∧ lx_X9_missing nc C Q 48 [.ref (270), .int (x1), .int (x2)] [.int (h.1 278 (x2 : Int32).toNatClampNeg)] h) : lx_X9_missing nc C Q 38 [.ref (270), .int (x1), .int (x2)] [] h := by
  refine tf_LW_go ?_
  exact ⟨⟨(by first | rfl | trivial), (show 270 < nc by omega)⟩, ⟨⟨(by first | rfl | trivial), (show 278 < nc by omega), q.1⟩, q.2⟩⟩
set_option maxRecDepth 100000 in
theorem go_X9_missing_47 {nc : Nat} {C : tf_C} {Q : tf_Q} {h : LH} (hn : 297 ≤ nc) {x1 : Int32} {x2 : Int32} (q : lx_X9_missing nc C Q 48 [.ref (270), .int (x1), .int (x2)] [.int (x1)] h) : lx_X9_missing nc C Q 47 [.ref (270), .int (x1), .int (x2)] [] h := by
  refine tf_LW_go ?_
  exact q
set_option maxRecDepth 100000 in
theorem go_X9_missing_48 {nc : Nat} {C : tf_C} {Q : tf_Q} {h : LH} (hn : 297 ≤ nc) {x1 : Int32} {x2 : Int32} {y0 : Int32} (q : lx_X9_missing nc C Q 7 [.ref (270), .int (y0), .int (x2 + 1)] [] h) : lx_X9_missing nc C Q 48 [.ref (270), .int (x1), .int (x2)] [.int (y0)] h := by
  refine tf_LW_go ?_
  exact q
set_option maxRecDepth 100000 in
theorem go_X9_missing_55 {nc : Nat} {C : tf_C} {Q : tf_Q} {h : LH} (hn : 297 ≤ nc) {x1 : Int32} {x2 : Int32} (q : Q (.int (x1)) h) : lx_X9_missing nc C Q 55 [.ref (270), .int (x1), .int (x2)] [] h := by
  refine tf_LW_go ?_
  exact ⟨(by first | trivial | rfl), q⟩
abbrev lx_X9_isFaulty (nc : Nat) (C : tf_C) (Q : tf_Q) : tf_X := tf_LW nc C (tf_F 7) (tf_M 7) (tf_I 7) (tf_Eh 22) 0 tb_X9_isFaulty Q
set_option maxRecDepth 100000 in
theorem go_X9_isFaulty_0 {nc : Nat} {C : tf_C} {Q : tf_Q} {h : LH} (hn : 297 ≤ nc) {x1 : Int32} {x2 : Int32} (q : Q tf_z (tf_up (tf_up h.1 271 (171 : Int32).toNatClampNeg x1) 271 (172 : Int32).toNatClampNeg x2, h.2)) : lx_X9_isFaulty nc C Q 0 [.ref (270), .int (x1), .int (x2)] [] h := by
  refine tf_LW_go ?_
  exact ⟨⟨(by first | rfl | trivial), (show 270 < nc by omega)⟩, ⟨⟨(by first | rfl | trivial), (show 271 < nc by omega), (vp_in_iff.mpr (by decide))⟩, ⟨⟨(by first | rfl | trivial), (show 270 < nc by omega)⟩, ⟨⟨(by first | rfl | trivial), (show 271 < nc by omega), (vp_in_iff.mpr (by decide))⟩, ⟨(by first | rfl | trivial), q⟩⟩⟩⟩⟩
theorem en_X9_isFaulty {nc d : Nat} {Q : tf_Q} {h : LH} (hn : 297 ≤ nc) {x1 : Int32} {x2 : Int32} (q : lx_X9_isFaulty nc (tf_Cd nc d) Q 0 [.ref (270), .int (x1), .int (x2)] [] h) : tf_Cd nc (d + 1) 22 [.ref (270), .int (x1), .int (x2)] h Q := by
  exact ⟨⟨Nat.le_of_ble_eq_true rfl, Or.inr ⟨rfl, (show 270 < nc by omega)⟩⟩, q⟩
abbrev lx_X9_taken (nc : Nat) (C : tf_C) (Q : tf_Q) : tf_X := tf_LW nc C (tf_F 7) (tf_M 7) (tf_I 7) (tf_Eh 23) 0 tb_X9_taken Q
set_option maxRecDepth 100000 in
theorem go_X9_taken_0 {nc : Nat} {C : tf_C} {Q : tf_Q} {h : LH} (hn : 297 ≤ nc) (q : lx_X9_taken nc C Q 2 [.ref (270), .int (0)] [] h) : lx_X9_taken nc C Q 0 [.ref (270), tf_z] [] h := by
  refine tf_LW_go ?_
  exact q
theorem en_X9_taken {nc d : Nat} {Q : tf_Q} {h : LH} (hn : 297 ≤ nc) (q : lx_X9_taken nc (tf_Cd nc d) Q 0 [.ref (270), tf_z] [] h) : tf_Cd nc (d + 1) 23 [.ref (270)] h Q := by
  exact ⟨⟨Nat.le_of_ble_eq_true rfl, Or.inr ⟨rfl, (show 270 < nc by omega)⟩⟩, q⟩
set_option maxRecDepth 100000 in
theorem go_X9_taken_2 {nc : Nat} {C : tf_C} {Q : tf_Q} {h : LH} (hn : 297 ≤ nc) {x1 : Int32} (q : ((170 : Int32) ≤ x1 → lx_X9_taken nc C Q 22 [.ref (270), .int (x1)] [] h) ∧ (¬ (170 : Int32) ≤ x1 → (vp_in x1 865) ∧ lx_X9_taken nc C Q 2 [.ref (270), .int (x1 + 1)] [] (tf_up h.1 271 (x1 : Int32).toNatClampNeg 0, h.2))) : lx_X9_taken nc C Q 2 [.ref (270), .int (x1)] [] h := by
  refine tf_LW_go ?_
  exact ⟨q.1, fun c1 => ⟨⟨(by first | rfl | trivial), (show 270 < nc by omega)⟩, ⟨⟨(by first | rfl | trivial), (show 271 < nc by omega), (q.2 c1).1⟩, (q.2 c1).2⟩⟩⟩
set_option maxRecDepth 100000 in
theorem go_X9_taken_22 {nc : Nat} {C : tf_C} {Q : tf_Q} {h : LH} (hn : 297 ≤ nc) {x1 : Int32} (q : lx_X9_taken nc C Q 62 [.ref (270), .int (0)] [] (tf_up (tf_up (tf_up (tf_up h.1 271 (0 : Int32).toNatClampNeg (h.1 270 18)) 271 (1 : Int32).toNatClampNeg ((tf_up h.1 271 (0 : Int32).toNatClampNeg (h.1 270 18)) 270 19)) 271 (2 : Int32).toNatClampNeg ((tf_up (tf_up h.1 271 (0 : Int32).toNatClampNeg (h.1 270 18)) 271 (1 : Int32).toNatClampNeg ((tf_up h.1 271 (0 : Int32).toNatClampNeg (h.1 270 18)) 270 19)) 270 20)) 271 (6 : Int32).toNatClampNeg (-1), h.2)) : lx_X9_taken nc C Q 22 [.ref (270), .int (x1)] [] h := by
  refine tf_LW_go ?_
  exact ⟨⟨(by first | rfl | trivial), (show 270 < nc by omega)⟩, ⟨⟨(by first | rfl | trivial), (show 270 < nc by omega)⟩, ⟨⟨(by first | rfl | trivial), (show 271 < nc by omega), (vp_in_iff.mpr (by decide))⟩, ⟨⟨(by first | rfl | trivial), (show 270 < nc by omega)⟩, ⟨⟨(by first | rfl | trivial), (show 270 < nc by omega)⟩, ⟨⟨(by first | rfl | trivial), (show 271 < nc by omega), (vp_in_iff.mpr (by decide))⟩, ⟨⟨(by first | rfl | trivial), (show 270 < nc by omega)⟩, ⟨⟨(by first | rfl | trivial), (show 270 < nc by omega)⟩, ⟨⟨(by first | rfl | trivial), (show 271 < nc by omega), (vp_in_iff.mpr (by decide))⟩, ⟨⟨(by first | rfl | trivial), (show 270 < nc by omega)⟩, ⟨⟨(by first | rfl | trivial), (show 271 < nc by omega), (vp_in_iff.mpr (by decide))⟩, q⟩⟩⟩⟩⟩⟩⟩⟩⟩⟩⟩
set_option maxRecDepth 100000 in
theorem go_X9_taken_62 {nc : Nat} {C : tf_C} {Q : tf_Q} {h : LH} (hn : 297 ≤ nc) {x1 : Int32} (q : ((7 : Int32) ≤ x1 → lx_X9_taken nc C Q 89 [.ref (270), .int (x1)] [] h) ∧ (¬ (7 : Int32) ≤ x1 → (vp_in x1 7) ∧ (vp_in (44 + x1) 865) ∧ lx_X9_taken nc C Q 62 [.ref (270), .int (x1 + 1)] [] (tf_up h.1 271 (44 + x1 : Int32).toNatClampNeg (h.1 276 (x1 : Int32).toNatClampNeg), h.2))) : lx_X9_taken nc C Q 62 [.ref (270), .int (x1)] [] h := by
  refine tf_LW_go ?_
  exact ⟨q.1, fun c1 => ⟨⟨(by first | rfl | trivial), (show 270 < nc by omega)⟩, ⟨⟨(by first | rfl | trivial), (show 270 < nc by omega)⟩, ⟨⟨(by first | rfl | trivial), (show 276 < nc by omega), (q.2 c1).1⟩, ⟨⟨(by first | rfl | trivial), (show 271 < nc by omega), (q.2 c1).2.1⟩, (q.2 c1).2.2⟩⟩⟩⟩⟩
set_option maxRecDepth 100000 in
theorem go_X9_taken_89 {nc : Nat} {C : tf_C} {Q : tf_Q} {h : LH} (hn : 297 ≤ nc) {x1 : Int32} (q : lx_X9_taken nc C Q 91 [.ref (270), .int (0)] [] h) : lx_X9_taken nc C Q 89 [.ref (270), .int (x1)] [] h := by
  refine tf_LW_go ?_
  exact q
set_option maxRecDepth 100000 in
theorem go_X9_taken_91 {nc : Nat} {C : tf_C} {Q : tf_Q} {h : LH} (hn : 297 ≤ nc) {x1 : Int32} (q : ((98 : Int32) ≤ x1 → lx_X9_taken nc C Q 118 [.ref (270), .int (x1)] [] h) ∧ (¬ (98 : Int32) ≤ x1 → (vp_in x1 98) ∧ (vp_in (72 + x1) 865) ∧ lx_X9_taken nc C Q 91 [.ref (270), .int (x1 + 1)] [] (tf_up h.1 271 (72 + x1 : Int32).toNatClampNeg (h.1 277 (x1 : Int32).toNatClampNeg), h.2))) : lx_X9_taken nc C Q 91 [.ref (270), .int (x1)] [] h := by
  refine tf_LW_go ?_
  exact ⟨q.1, fun c1 => ⟨⟨(by first | rfl | trivial), (show 270 < nc by omega)⟩, ⟨⟨(by first | rfl | trivial), (show 270 < nc by omega)⟩, ⟨⟨(by first | rfl | trivial), (show 277 < nc by omega), (q.2 c1).1⟩, ⟨⟨(by first | rfl | trivial), (show 271 < nc by omega), (q.2 c1).2.1⟩, (q.2 c1).2.2⟩⟩⟩⟩⟩
set_option maxRecDepth 100000 in
theorem go_X9_taken_118 {nc : Nat} {C : tf_C} {Q : tf_Q} {h : LH} (hn : 297 ≤ nc) {x1 : Int32} (q : C 51 [.ref (270), .int (0)] (tf_up h.1 270 5 0, h.2) (fun r g => lx_X9_taken nc C Q 128 [.ref (270), .int (x1)] [] g)) : lx_X9_taken nc C Q 118 [.ref (270), .int (x1)] [] h := by
  refine tf_LW_go ?_
  exact ⟨⟨(by first | rfl | trivial), (show 270 < nc by omega), (by first | rfl | trivial)⟩, ⟨Nat.le_of_ble_eq_true rfl, Nat.le_of_ble_eq_true rfl, q⟩⟩
set_option maxRecDepth 100000 in
theorem go_X9_taken_128 {nc : Nat} {C : tf_C} {Q : tf_Q} {h : LH} (hn : 297 ≤ nc) {x1 : Int32} (q : Q tf_z h) : lx_X9_taken nc C Q 128 [.ref (270), .int (x1)] [] h := by
  refine tf_LW_go ?_
  exact ⟨(by first | rfl | trivial), q⟩
abbrev lx_X9_lay (nc : Nat) (C : tf_C) (Q : tf_Q) : tf_X := tf_LW nc C (tf_F 7) (tf_M 7) (tf_I 7) (tf_Eh 24) 1 tb_X9_lay Q
set_option maxRecDepth 100000 in
theorem go_X9_lay_0 {nc : Nat} {C : tf_C} {Q : tf_Q} {h : LH} (hn : 297 ≤ nc) (q : C 14 [.ref (270)] (tf_up h.1 270 0 0, h.2) (fun r g => lx_X9_lay nc C Q 9 [.ref (270), tf_z, tf_z, tf_z] [] g)) : lx_X9_lay nc C Q 0 [.ref (270), tf_z, tf_z, tf_z] [] h := by
  refine tf_LW_go ?_
  exact ⟨⟨(by first | rfl | trivial), (show 270 < nc by omega), (by first | rfl | trivial)⟩, ⟨Nat.le_of_ble_eq_true rfl, Nat.le_of_ble_eq_true rfl, q⟩⟩
theorem en_X9_lay {nc d : Nat} {Q : tf_Q} {h : LH} (hn : 297 ≤ nc) (q : lx_X9_lay nc (tf_Cd nc d) Q 0 [.ref (270), tf_z, tf_z, tf_z] [] h) : tf_Cd nc (d + 1) 24 [.ref (270)] h Q := by
  exact ⟨⟨Nat.le_of_ble_eq_true rfl, Or.inr ⟨rfl, (show 270 < nc by omega)⟩⟩, q⟩
set_option maxRecDepth 100000 in
theorem go_X9_lay_9 {nc : Nat} {C : tf_C} {Q : tf_Q} {h : LH} (hn : 297 ≤ nc) (q : C 20 [.ref (270), .int (1)] h (fun r g => lx_X9_lay nc C Q 14 [.ref (270), tf_z, tf_z, tf_z] (r :: []) g)) : lx_X9_lay nc C Q 9 [.ref (270), tf_z, tf_z, tf_z] [] h := by
  refine tf_LW_go ?_
  exact ⟨Nat.le_of_ble_eq_true rfl, Nat.le_of_ble_eq_true rfl, q⟩
set_option maxRecDepth 100000 in
theorem go_X9_lay_14 {nc : Nat} {C : tf_C} {Q : tf_Q} {h : LH} (hn : 297 ≤ nc) {y0 : Int32} (q : lx_X9_lay nc C Q 19 [.ref (270), .int (y0), .int (0), .int (0)] [] h) : lx_X9_lay nc C Q 14 [.ref (270), tf_z, tf_z, tf_z] [.int (y0)] h := by
  refine tf_LW_go ?_
  exact q
set_option maxRecDepth 100000 in
theorem go_X9_lay_19 {nc : Nat} {C : tf_C} {Q : tf_Q} {h : LH} (hn : 297 ≤ nc) {x1 : Int32} {x2 : Int32} {x3 : Int32} (q : ((7 : Int32) ≤ x3 → lx_X9_lay nc C Q 40 [.ref (270), .int (x1), .int (x2), .int (x3)] [] h) ∧ (¬ (7 : Int32) ≤ x3 → (vp_in x3 7) ∧ lx_X9_lay nc C Q 19 [.ref (270), .int (x1), .int (x2 + (h.1 276 (x3 : Int32).toNatClampNeg)), .int (x3 + 1)] [] h)) : lx_X9_lay nc C Q 19 [.ref (270), .int (x1), .int (x2), .int (x3)] [] h := by
  refine tf_LW_go ?_
  exact ⟨q.1, fun c1 => ⟨⟨(by first | rfl | trivial), (show 270 < nc by omega)⟩, ⟨⟨(by first | rfl | trivial), (show 276 < nc by omega), (q.2 c1).1⟩, (q.2 c1).2⟩⟩⟩
set_option maxRecDepth 100000 in
theorem go_X9_lay_40 {nc : Nat} {C : tf_C} {Q : tf_Q} {h : LH} (hn : 297 ≤ nc) {x1 : Int32} {x2 : Int32} {x3 : Int32} (q : (x1 = (0 : Int32) → C 22 [.ref (270), .int (1), .int (h.1 270 12)] h (fun r g => lx_X9_lay nc C Q 53 [.ref (270), .int (x1), .int (x2), .int (x3)] [] g)) ∧ (¬ x1 = (0 : Int32) → lx_X9_lay nc C Q 56 [.ref (270), .int (x1), .int (x2), .int (x3)] [] h)) : lx_X9_lay nc C Q 40 [.ref (270), .int (x1), .int (x2), .int (x3)] [] h := by
  refine tf_LW_go ?_
  exact ⟨fun c1 => ⟨⟨(by first | rfl | trivial), (show 270 < nc by omega)⟩, ⟨Nat.le_of_ble_eq_true rfl, Nat.le_of_ble_eq_true rfl, (q.1 c1)⟩⟩, q.2⟩
set_option maxRecDepth 100000 in
theorem go_X9_lay_53 {nc : Nat} {C : tf_C} {Q : tf_Q} {h : LH} (hn : 297 ≤ nc) {x1 : Int32} {x2 : Int32} {x3 : Int32} (q : lx_X9_lay nc C Q 121 [.ref (270), .int (x1), .int (x2), .int (x3)] [] h) : lx_X9_lay nc C Q 53 [.ref (270), .int (x1), .int (x2), .int (x3)] [] h := by
  refine tf_LW_go ?_
  exact q
set_option maxRecDepth 100000 in
theorem go_X9_lay_56 {nc : Nat} {C : tf_C} {Q : tf_Q} {h : LH} (hn : 297 ≤ nc) {x1 : Int32} {x2 : Int32} {x3 : Int32} (q : ((h.1 270 13) = ((-1) : Int32) → lx_X9_lay nc C Q 76 [.ref (270), .int (x1), .int (x2), .int (x3)] [] h) ∧ (¬ (h.1 270 13) = ((-1) : Int32) → C 22 [.ref (270), .int (2), .int (h.1 270 13)] h (fun r g => lx_X9_lay nc C Q 73 [.ref (270), .int (x1), .int (x2), .int (x3)] [] g))) : lx_X9_lay nc C Q 56 [.ref (270), .int (x1), .int (x2), .int (x3)] [] h := by
  refine tf_LW_go ?_
  exact ⟨⟨(by first | rfl | trivial), (show 270 < nc by omega)⟩, ⟨q.1, fun c1 => ⟨⟨(by first | rfl | trivial), (show 270 < nc by omega)⟩, ⟨Nat.le_of_ble_eq_true rfl, Nat.le_of_ble_eq_true rfl, (q.2 c1)⟩⟩⟩⟩
set_option maxRecDepth 100000 in
theorem go_X9_lay_73 {nc : Nat} {C : tf_C} {Q : tf_Q} {h : LH} (hn : 297 ≤ nc) {x1 : Int32} {x2 : Int32} {x3 : Int32} (q : lx_X9_lay nc C Q 121 [.ref (270), .int (x1), .int (x2), .int (x3)] [] h) : lx_X9_lay nc C Q 73 [.ref (270), .int (x1), .int (x2), .int (x3)] [] h := by
  refine tf_LW_go ?_
  exact q
set_option maxRecDepth 100000 in
theorem go_X9_lay_76 {nc : Nat} {C : tf_C} {Q : tf_Q} {h : LH} (hn : 297 ≤ nc) {x1 : Int32} {x2 : Int32} {x3 : Int32} (q : C 21 [.ref (270)] h (fun r g => lx_X9_lay nc C Q 80 [.ref (270), .int (x1), .int (x2), .int (x3)] (r :: []) g)) : lx_X9_lay nc C Q 76 [.ref (270), .int (x1), .int (x2), .int (x3)] [] h := by
  refine tf_LW_go ?_
  exact ⟨Nat.le_of_ble_eq_true rfl, Nat.le_of_ble_eq_true rfl, q⟩
set_option maxRecDepth 100000 in
theorem go_X9_lay_80 {nc : Nat} {C : tf_C} {Q : tf_Q} {h : LH} (hn : 297 ≤ nc) {x1 : Int32} {x2 : Int32} {x3 : Int32} {y0 : Int32} (q : (y0 = ((-1) : Int32) → lx_X9_lay nc C Q 96 [.ref (270), .int (x1), .int (x2), .int (x3)] [] h) ∧ (¬ y0 = ((-1) : Int32) → C 21 [.ref (270)] h (fun r g => lx_X9_lay nc C Q 90 [.ref (270), .int (x1), .int (x2), .int (x3)] (r :: [.int (3), .ref (270)]) g))) : lx_X9_lay nc C Q 80 [.ref (270), .int (x1), .int (x2), .int (x3)] [.int (y0)] h := by
  refine tf_LW_go ?_
  exact ⟨q.1, fun c1 => ⟨Nat.le_of_ble_eq_true rfl, Nat.le_of_ble_eq_true rfl, (q.2 c1)⟩⟩
set_option maxRecDepth 100000 in
theorem go_X9_lay_90 {nc : Nat} {C : tf_C} {Q : tf_Q} {h : LH} (hn : 297 ≤ nc) {x1 : Int32} {x2 : Int32} {x3 : Int32} {y1 : Int32} {y2 : Int32} (q : C 22 [.ref (270), .int (y1), .int (y2)] h (fun r g => lx_X9_lay nc C Q 93 [.ref (270), .int (x1), .int (x2), .int (x3)] [] g)) : lx_X9_lay nc C Q 90 [.ref (270), .int (x1), .int (x2), .int (x3)] [.int (y2), .int (y1), .ref (270)] h := by
  refine tf_LW_go ?_
  exact ⟨Nat.le_of_ble_eq_true rfl, Nat.le_of_ble_eq_true rfl, q⟩
set_option maxRecDepth 100000 in
theorem go_X9_lay_93 {nc : Nat} {C : tf_C} {Q : tf_Q} {h : LH} (hn : 297 ≤ nc) {x1 : Int32} {x2 : Int32} {x3 : Int32} (q : lx_X9_lay nc C Q 121 [.ref (270), .int (x1), .int (x2), .int (x3)] [] h) : lx_X9_lay nc C Q 93 [.ref (270), .int (x1), .int (x2), .int (x3)] [] h := by
  refine tf_LW_go ?_
  exact q
set_option maxRecDepth 100000 in
theorem go_X9_lay_96 {nc : Nat} {C : tf_C} {Q : tf_Q} {h : LH} (hn : 297 ≤ nc) {x1 : Int32} {x2 : Int32} {x3 : Int32} (q : (x2 = (0 : Int32) → lx_X9_lay nc C Q 106 [.ref (270), .int (x1), .int (x2), .int (x3)] [.int (0), .ref (270)] h) ∧ (¬ x2 = (0 : Int32) → lx_X9_lay nc C Q 105 [.ref (270), .int (x1), .int (x2), .int (x3)] [.ref (270)] h)) : lx_X9_lay nc C Q 96 [.ref (270), .int (x1), .int (x2), .int (x3)] [] h := by
  refine tf_LW_go ?_
  exact ⟨fun c1 => (q.1 c1), q.2⟩
set_option maxRecDepth 100000 in
theorem go_X9_lay_105 {nc : Nat} {C : tf_C} {Q : tf_Q} {h : LH} (hn : 297 ≤ nc) {x1 : Int32} {x2 : Int32} {x3 : Int32} (q : lx_X9_lay nc C Q 106 [.ref (270), .int (x1), .int (x2), .int (x3)] [.int (4), .ref (270)] h) : lx_X9_lay nc C Q 105 [.ref (270), .int (x1), .int (x2), .int (x3)] [.ref (270)] h := by
  refine tf_LW_go ?_
  exact q
set_option maxRecDepth 100000 in
theorem go_X9_lay_106 {nc : Nat} {C : tf_C} {Q : tf_Q} {h : LH} (hn : 297 ≤ nc) {x1 : Int32} {x2 : Int32} {x3 : Int32} {y1 : Int32} (q : (x2 = (0 : Int32) → lx_X9_lay nc C Q 118 [.ref (270), .int (x1), .int (x2), .int (x3)] [.int ((-1)), .int (y1), .ref (270)] h) ∧ (¬ x2 = (0 : Int32) → lx_X9_lay nc C Q 114 [.ref (270), .int (x1), .int (x2), .int (x3)] [.int (y1), .ref (270)] h)) : lx_X9_lay nc C Q 106 [.ref (270), .int (x1), .int (x2), .int (x3)] [.int (y1), .ref (270)] h := by
  refine tf_LW_go ?_
  exact ⟨fun c1 => (q.1 c1), q.2⟩
set_option maxRecDepth 100000 in
theorem go_X9_lay_114 {nc : Nat} {C : tf_C} {Q : tf_Q} {h : LH} (hn : 297 ≤ nc) {x1 : Int32} {x2 : Int32} {x3 : Int32} {y1 : Int32} (q : lx_X9_lay nc C Q 118 [.ref (270), .int (x1), .int (x2), .int (x3)] [.int (h.1 270 7), .int (y1), .ref (270)] h) : lx_X9_lay nc C Q 114 [.ref (270), .int (x1), .int (x2), .int (x3)] [.int (y1), .ref (270)] h := by
  refine tf_LW_go ?_
  exact ⟨⟨(by first | rfl | trivial), (show 270 < nc by omega)⟩, q⟩
set_option maxRecDepth 100000 in
theorem go_X9_lay_118 {nc : Nat} {C : tf_C} {Q : tf_Q} {h : LH} (hn : 297 ≤ nc) {x1 : Int32} {x2 : Int32} {x3 : Int32} {y1 : Int32} {y2 : Int32} (q : C 22 [.ref (270), .int (y1), .int (y2)] h (fun r g => lx_X9_lay nc C Q 121 [.ref (270), .int (x1), .int (x2), .int (x3)] [] g)) : lx_X9_lay nc C Q 118 [.ref (270), .int (x1), .int (x2), .int (x3)] [.int (y2), .int (y1), .ref (270)] h := by
  refine tf_LW_go ?_
  exact ⟨Nat.le_of_ble_eq_true rfl, Nat.le_of_ble_eq_true rfl, q⟩
set_option maxRecDepth 100000 in
theorem go_X9_lay_121 {nc : Nat} {C : tf_C} {Q : tf_Q} {h : LH} (hn : 297 ≤ nc) {x1 : Int32} {x2 : Int32} {x3 : Int32} (q : ((h.1 271 (171 : Int32).toNatClampNeg) = (0 : Int32) → lx_X9_lay nc C Q 134 [.ref (270), .int (x1), .int (x2), .int (x3)] [] h) ∧ (¬ (h.1 271 (171 : Int32).toNatClampNeg) = (0 : Int32) → Q (.int ((-1))) h)) : lx_X9_lay nc C Q 121 [.ref (270), .int (x1), .int (x2), .int (x3)] [] h := by
  refine tf_LW_go ?_
  exact ⟨⟨(by first | rfl | trivial), (show 270 < nc by omega)⟩, ⟨⟨(by first | rfl | trivial), (show 271 < nc by omega), (vp_in_iff.mpr (by decide))⟩, ⟨q.1, fun c1 => ⟨(by first | trivial | rfl), (q.2 c1)⟩⟩⟩⟩
set_option maxRecDepth 100000 in
theorem go_X9_lay_134 {nc : Nat} {C : tf_C} {Q : tf_Q} {h : LH} (hn : 297 ≤ nc) {x1 : Int32} {x2 : Int32} {x3 : Int32} (q : C 23 [.ref (270)] h (fun r g => lx_X9_lay nc C Q 138 [.ref (270), .int (x1), .int (x2), .int (x3)] [] g)) : lx_X9_lay nc C Q 134 [.ref (270), .int (x1), .int (x2), .int (x3)] [] h := by
  refine tf_LW_go ?_
  exact ⟨Nat.le_of_ble_eq_true rfl, Nat.le_of_ble_eq_true rfl, q⟩
set_option maxRecDepth 100000 in
theorem go_X9_lay_138 {nc : Nat} {C : tf_C} {Q : tf_Q} {h : LH} (hn : 297 ≤ nc) {x1 : Int32} {x2 : Int32} {x3 : Int32} (q : Q (.int (h.1 271 (1 : Int32).toNatClampNeg)) h) : lx_X9_lay nc C Q 138 [.ref (270), .int (x1), .int (x2), .int (x3)] [] h := by
  refine tf_LW_go ?_
  exact ⟨⟨(by first | rfl | trivial), (show 270 < nc by omega)⟩, ⟨⟨(by first | rfl | trivial), (show 271 < nc by omega), (vp_in_iff.mpr (by decide))⟩, ⟨(by first | trivial | rfl), q⟩⟩⟩
abbrev lx_X9_fault (nc : Nat) (C : tf_C) (Q : tf_Q) : tf_X := tf_LW nc C (tf_F 7) (tf_M 7) (tf_I 7) (tf_Eh 25) 1 tb_X9_fault Q
set_option maxRecDepth 100000 in
theorem go_X9_fault_0 {nc : Nat} {C : tf_C} {Q : tf_Q} {h : LH} (hn : 297 ≤ nc) {x1 : Int32} (q : (x1 = (0 : Int32) → lx_X9_fault nc C Q 20 [.ref (270), .int (x1)] [] (tf_up h.1 270 0 0, h.2)) ∧ (¬ x1 = (0 : Int32) → lx_X9_fault nc C Q 28 [.ref (270), .int (x1)] [.int ((tf_up h.1 270 0 0) 271 (172 : Int32).toNatClampNeg)] (tf_up h.1 270 0 0, h.2))) : lx_X9_fault nc C Q 0 [.ref (270), .int (x1)] [] h := by
  refine tf_LW_go ?_
  exact ⟨⟨(by first | rfl | trivial), (show 270 < nc by omega), (by first | rfl | trivial)⟩, ⟨q.1, fun c1 => ⟨⟨(by first | rfl | trivial), (show 270 < nc by omega)⟩, ⟨⟨(by first | rfl | trivial), (show 271 < nc by omega), (vp_in_iff.mpr (by decide))⟩, (q.2 c1)⟩⟩⟩⟩
theorem en_X9_fault {nc d : Nat} {Q : tf_Q} {h : LH} (hn : 297 ≤ nc) {x1 : Int32} (q : lx_X9_fault nc (tf_Cd nc d) Q 0 [.ref (270), .int (x1)] [] h) : tf_Cd nc (d + 1) 25 [.ref (270), .int (x1)] h Q := by
  exact ⟨⟨Nat.le_of_ble_eq_true rfl, Or.inr ⟨rfl, (show 270 < nc by omega)⟩⟩, q⟩
set_option maxRecDepth 100000 in
theorem go_X9_fault_20 {nc : Nat} {C : tf_C} {Q : tf_Q} {h : LH} (hn : 297 ≤ nc) {x1 : Int32} (q : lx_X9_fault nc C Q 28 [.ref (270), .int (x1)] [.int (h.1 271 (171 : Int32).toNatClampNeg)] h) : lx_X9_fault nc C Q 20 [.ref (270), .int (x1)] [] h := by
  refine tf_LW_go ?_
  exact ⟨⟨(by first | rfl | trivial), (show 270 < nc by omega)⟩, ⟨⟨(by first | rfl | trivial), (show 271 < nc by omega), (vp_in_iff.mpr (by decide))⟩, q⟩⟩
set_option maxRecDepth 100000 in
theorem go_X9_fault_28 {nc : Nat} {C : tf_C} {Q : tf_Q} {h : LH} (hn : 297 ≤ nc) {x1 : Int32} {y0 : Int32} (q : Q (.int (y0)) h) : lx_X9_fault nc C Q 28 [.ref (270), .int (x1)] [.int (y0)] h := by
  refine tf_LW_go ?_
  exact ⟨(by first | trivial | rfl), q⟩
abbrev lx_X9_root (nc : Nat) (C : tf_C) (Q : tf_Q) : tf_X := tf_LW nc C (tf_F 7) (tf_M 7) (tf_I 7) (tf_Eh 26) 1 tb_X9_root Q
set_option maxRecDepth 100000 in
theorem go_X9_root_0 {nc : Nat} {C : tf_C} {Q : tf_Q} {h : LH} (hn : 297 ≤ nc) (q : Q (.int (h.1 271 (0 : Int32).toNatClampNeg)) h) : lx_X9_root nc C Q 0 [.ref (270)] [] h := by
  refine tf_LW_go ?_
  exact ⟨⟨(by first | rfl | trivial), (show 270 < nc by omega)⟩, ⟨⟨(by first | rfl | trivial), (show 271 < nc by omega), (vp_in_iff.mpr (by decide))⟩, ⟨(by first | trivial | rfl), q⟩⟩⟩
theorem en_X9_root {nc d : Nat} {Q : tf_Q} {h : LH} (hn : 297 ≤ nc) (q : lx_X9_root nc (tf_Cd nc d) Q 0 [.ref (270)] [] h) : tf_Cd nc (d + 1) 26 [.ref (270)] h Q := by
  exact ⟨⟨Nat.le_of_ble_eq_true rfl, Or.inr ⟨rfl, (show 270 < nc by omega)⟩⟩, q⟩
abbrev lx_X9_isLoan (nc : Nat) (C : tf_C) (Q : tf_Q) : tf_X := tf_LW nc C (tf_F 7) (tf_M 7) (tf_I 7) (tf_Eh 27) 2 tb_X9_isLoan Q
set_option maxRecDepth 100000 in
theorem go_X9_isLoan_0 {nc : Nat} {C : tf_C} {Q : tf_Q} {h : LH} (hn : 297 ≤ nc) {x0 : Int32} (q : (x0 < (100 : Int32) → lx_X9_isLoan nc C Q 10 [.int (x0)] [] h) ∧ (¬ x0 < (100 : Int32) → lx_X9_isLoan nc C Q 11 [.int (x0)] [.int (1)] h)) : lx_X9_isLoan nc C Q 0 [.int (x0)] [] h := by
  refine tf_LW_go ?_
  exact ⟨q.1, fun c1 => (q.2 c1)⟩
theorem en_X9_isLoan {nc d : Nat} {Q : tf_Q} {h : LH} (hn : 297 ≤ nc) {x0 : Int32} (q : lx_X9_isLoan nc (tf_Cd nc d) Q 0 [.int (x0)] [] h) : tf_Cd nc (d + 1) 27 [.int (x0)] h Q := by
  exact ⟨⟨Nat.le_of_ble_eq_true rfl, Or.inl rfl⟩, q⟩
set_option maxRecDepth 100000 in
theorem go_X9_isLoan_10 {nc : Nat} {C : tf_C} {Q : tf_Q} {h : LH} (hn : 297 ≤ nc) {x0 : Int32} (q : lx_X9_isLoan nc C Q 11 [.int (x0)] [.int (0)] h) : lx_X9_isLoan nc C Q 10 [.int (x0)] [] h := by
  refine tf_LW_go ?_
  exact q
set_option maxRecDepth 100000 in
theorem go_X9_isLoan_11 {nc : Nat} {C : tf_C} {Q : tf_Q} {h : LH} (hn : 297 ≤ nc) {x0 : Int32} {y0 : Int32} (q : (vp_nar .boolean (y0) = (y0)) ∧ Q (.int (y0)) h) : lx_X9_isLoan nc C Q 11 [.int (x0)] [.int (y0)] h := by
  refine tf_LW_go ?_
  exact q
abbrev lx_X9_hangs (nc : Nat) (C : tf_C) (Q : tf_Q) : tf_X := tf_LW nc C (tf_F 7) (tf_M 7) (tf_I 7) (tf_Eh 28) 2 tb_X9_hangs Q
set_option maxRecDepth 100000 in
theorem go_X9_hangs_0 {nc : Nat} {C : tf_C} {Q : tf_Q} {h : LH} (hn : 297 ≤ nc) {x1 : Int32} (q : C 3 [.ref (270), .int (x1), .int (5)] h (fun r g => lx_X9_hangs nc C Q 6 [.ref (270), .int (x1)] (r :: []) g)) : lx_X9_hangs nc C Q 0 [.ref (270), .int (x1)] [] h := by
  refine tf_LW_go ?_
  exact ⟨Nat.le_of_ble_eq_true rfl, Nat.le_of_ble_eq_true rfl, q⟩
theorem en_X9_hangs {nc d : Nat} {Q : tf_Q} {h : LH} (hn : 297 ≤ nc) {x1 : Int32} (q : lx_X9_hangs nc (tf_Cd nc d) Q 0 [.ref (270), .int (x1)] [] h) : tf_Cd nc (d + 1) 28 [.ref (270), .int (x1)] h Q := by
  exact ⟨⟨Nat.le_of_ble_eq_true rfl, Or.inr ⟨rfl, (show 270 < nc by omega)⟩⟩, q⟩
set_option maxRecDepth 100000 in
theorem go_X9_hangs_6 {nc : Nat} {C : tf_C} {Q : tf_Q} {h : LH} (hn : 297 ≤ nc) {x1 : Int32} {y0 : Int32} (q : (y0 = (2 : Int32) → lx_X9_hangs nc C Q 15 [.ref (270), .int (x1)] [.int (1)] h) ∧ (¬ y0 = (2 : Int32) → lx_X9_hangs nc C Q 14 [.ref (270), .int (x1)] [] h)) : lx_X9_hangs nc C Q 6 [.ref (270), .int (x1)] [.int (y0)] h := by
  refine tf_LW_go ?_
  exact ⟨fun c1 => (q.1 c1), q.2⟩
set_option maxRecDepth 100000 in
theorem go_X9_hangs_14 {nc : Nat} {C : tf_C} {Q : tf_Q} {h : LH} (hn : 297 ≤ nc) {x1 : Int32} (q : lx_X9_hangs nc C Q 15 [.ref (270), .int (x1)] [.int (0)] h) : lx_X9_hangs nc C Q 14 [.ref (270), .int (x1)] [] h := by
  refine tf_LW_go ?_
  exact q
set_option maxRecDepth 100000 in
theorem go_X9_hangs_15 {nc : Nat} {C : tf_C} {Q : tf_Q} {h : LH} (hn : 297 ≤ nc) {x1 : Int32} {y0 : Int32} (q : (vp_nar .boolean (y0) = (y0)) ∧ Q (.int (y0)) h) : lx_X9_hangs nc C Q 15 [.ref (270), .int (x1)] [.int (y0)] h := by
  refine tf_LW_go ?_
  exact q
abbrev lx_X9_settles (nc : Nat) (C : tf_C) (Q : tf_Q) : tf_X := tf_LW nc C (tf_F 7) (tf_M 7) (tf_I 7) (tf_Eh 29) 0 tb_X9_settles Q
set_option maxRecDepth 100000 in
theorem go_X9_settles_0 {nc : Nat} {C : tf_C} {Q : tf_Q} {h : LH} (hn : 297 ≤ nc) {x1 : Int32} {x2 : Int32} {x3 : Int32} {x4 : Int32} (q : (vp_in x1 8) ∧ (vp_in x1 8) ∧ (vp_in x2 8) ∧ (vp_in x1 8) ∧ (vp_in x1 8) ∧ Q tf_z (tf_up (tf_up (tf_up (tf_up h.1 281 (x1 : Int32).toNatClampNeg x2) 282 (x1 : Int32).toNatClampNeg x3) 283 (x1 : Int32).toNatClampNeg (((tf_up (tf_up h.1 281 (x1 : Int32).toNatClampNeg x2) 282 (x1 : Int32).toNatClampNeg x3) 283 (x2 : Int32).toNatClampNeg) + 1)) 284 (x1 : Int32).toNatClampNeg x4, h.2)) : lx_X9_settles nc C Q 0 [.ref (270), .int (x1), .int (x2), .int (x3), .int (x4)] [] h := by
  refine tf_LW_go ?_
  exact ⟨⟨(by first | rfl | trivial), (show 270 < nc by omega)⟩, ⟨⟨(by first | rfl | trivial), (show 281 < nc by omega), q.1⟩, ⟨⟨(by first | rfl | trivial), (show 270 < nc by omega)⟩, ⟨⟨(by first | rfl | trivial), (show 282 < nc by omega), q.2.1⟩, ⟨⟨(by first | rfl | trivial), (show 270 < nc by omega)⟩, ⟨⟨(by first | rfl | trivial), (show 270 < nc by omega)⟩, ⟨⟨(by first | rfl | trivial), (show 283 < nc by omega), q.2.2.1⟩, ⟨⟨(by first | rfl | trivial), (show 283 < nc by omega), q.2.2.2.1⟩, ⟨⟨(by first | rfl | trivial), (show 270 < nc by omega)⟩, ⟨⟨(by first | rfl | trivial), (show 284 < nc by omega), q.2.2.2.2.1⟩, ⟨(by first | rfl | trivial), q.2.2.2.2.2⟩⟩⟩⟩⟩⟩⟩⟩⟩⟩⟩
theorem en_X9_settles {nc d : Nat} {Q : tf_Q} {h : LH} (hn : 297 ≤ nc) {x1 : Int32} {x2 : Int32} {x3 : Int32} {x4 : Int32} (q : lx_X9_settles nc (tf_Cd nc d) Q 0 [.ref (270), .int (x1), .int (x2), .int (x3), .int (x4)] [] h) : tf_Cd nc (d + 1) 29 [.ref (270), .int (x1), .int (x2), .int (x3), .int (x4)] h Q := by
  exact ⟨⟨Nat.le_of_ble_eq_true rfl, Or.inr ⟨rfl, (show 270 < nc by omega)⟩⟩, q⟩
abbrev lx_X9_laysTree (nc : Nat) (C : tf_C) (Q : tf_Q) : tf_X := tf_LW nc C (tf_F 7) (tf_M 7) (tf_I 7) (tf_Eh 30) 0 tb_X9_laysTree Q
set_option maxRecDepth 100000 in
theorem go_X9_laysTree_0 {nc : Nat} {C : tf_C} {Q : tf_Q} {h : LH} (hn : 297 ≤ nc) (q : lx_X9_laysTree nc C Q 2 [.ref (270), .int (0), tf_z, tf_z, tf_z] [] h) : lx_X9_laysTree nc C Q 0 [.ref (270), tf_z, tf_z, tf_z, tf_z] [] h := by
  refine tf_LW_go ?_
  exact q
theorem en_X9_laysTree {nc d : Nat} {Q : tf_Q} {h : LH} (hn : 297 ≤ nc) (q : lx_X9_laysTree nc (tf_Cd nc d) Q 0 [.ref (270), tf_z, tf_z, tf_z, tf_z] [] h) : tf_Cd nc (d + 1) 30 [.ref (270)] h Q := by
  exact ⟨⟨Nat.le_of_ble_eq_true rfl, Or.inr ⟨rfl, (show 270 < nc by omega)⟩⟩, q⟩
set_option maxRecDepth 100000 in
theorem go_X9_laysTree_2 {nc : Nat} {C : tf_C} {Q : tf_Q} {h : LH} (hn : 297 ≤ nc) {x1 : Int32} (q : ((7 : Int32) < x1 → lx_X9_laysTree nc C Q 42 [.ref (270), .int (x1), tf_z, tf_z, tf_z] [] h) ∧ (¬ (7 : Int32) < x1 → (vp_in x1 8) ∧ (vp_in x1 8) ∧ (vp_in x1 8) ∧ (vp_in x1 8) ∧ lx_X9_laysTree nc C Q 2 [.ref (270), .int (x1 + 1), tf_z, tf_z, tf_z] [] (tf_up (tf_up (tf_up (tf_up h.1 281 (x1 : Int32).toNatClampNeg (-1)) 282 (x1 : Int32).toNatClampNeg (-1)) 283 (x1 : Int32).toNatClampNeg 0) 284 (x1 : Int32).toNatClampNeg 0, h.2))) : lx_X9_laysTree nc C Q 2 [.ref (270), .int (x1), tf_z, tf_z, tf_z] [] h := by
  refine tf_LW_go ?_
  exact ⟨q.1, fun c1 => ⟨⟨(by first | rfl | trivial), (show 270 < nc by omega)⟩, ⟨⟨(by first | rfl | trivial), (show 281 < nc by omega), (q.2 c1).1⟩, ⟨⟨(by first | rfl | trivial), (show 270 < nc by omega)⟩, ⟨⟨(by first | rfl | trivial), (show 282 < nc by omega), (q.2 c1).2.1⟩, ⟨⟨(by first | rfl | trivial), (show 270 < nc by omega)⟩, ⟨⟨(by first | rfl | trivial), (show 283 < nc by omega), (q.2 c1).2.2.1⟩, ⟨⟨(by first | rfl | trivial), (show 270 < nc by omega)⟩, ⟨⟨(by first | rfl | trivial), (show 284 < nc by omega), (q.2 c1).2.2.2.1⟩, (q.2 c1).2.2.2.2⟩⟩⟩⟩⟩⟩⟩⟩⟩
set_option maxRecDepth 100000 in
theorem go_X9_laysTree_42 {nc : Nat} {C : tf_C} {Q : tf_Q} {h : LH} (hn : 297 ≤ nc) {x1 : Int32} (q : lx_X9_laysTree nc C Q 44 [.ref (270), .int (0), tf_z, tf_z, tf_z] [] h) : lx_X9_laysTree nc C Q 42 [.ref (270), .int (x1), tf_z, tf_z, tf_z] [] h := by
  refine tf_LW_go ?_
  exact q
set_option maxRecDepth 100000 in
theorem go_X9_laysTree_44 {nc : Nat} {C : tf_C} {Q : tf_Q} {h : LH} (hn : 297 ≤ nc) {x1 : Int32} (q : ((h.1 271 (0 : Int32).toNatClampNeg) ≤ x1 → lx_X9_laysTree nc C Q 108 [.ref (270), .int (x1), tf_z, tf_z, tf_z] [] h) ∧ (¬ (h.1 271 (0 : Int32).toNatClampNeg) ≤ x1 → (vp_in (51 + x1) 865) ∧ ((h.1 271 (51 + x1 : Int32).toNatClampNeg) = (1 : Int32) → C 26 [.ref (270)] h (fun r g => lx_X9_laysTree nc C Q 73 [.ref (270), .int (x1), tf_z, tf_z, tf_z] (r :: [.int (x1), .ref (270)]) g)) ∧ (¬ (h.1 271 (51 + x1 : Int32).toNatClampNeg) = (1 : Int32) → lx_X9_laysTree nc C Q 102 [.ref (270), .int (x1), tf_z, tf_z, tf_z] [] h))) : lx_X9_laysTree nc C Q 44 [.ref (270), .int (x1), tf_z, tf_z, tf_z] [] h := by
  refine tf_LW_go ?_
  exact ⟨⟨(by first | rfl | trivial), (show 270 < nc by omega)⟩, ⟨⟨(by first | rfl | trivial), (show 271 < nc by omega), (vp_in_iff.mpr (by decide))⟩, ⟨q.1, fun c2 => ⟨⟨(by first | rfl | trivial), (show 270 < nc by omega)⟩, ⟨⟨(by first | rfl | trivial), (show 271 < nc by omega), (q.2 c2).1⟩, ⟨fun c1 => ⟨Nat.le_of_ble_eq_true rfl, Nat.le_of_ble_eq_true rfl, ((q.2 c2).2.1 c1)⟩, (q.2 c2).2.2⟩⟩⟩⟩⟩⟩
set_option maxRecDepth 100000 in
theorem go_X9_laysTree_73 {nc : Nat} {C : tf_C} {Q : tf_Q} {h : LH} (hn : 297 ≤ nc) {x1 : Int32} {y1 : Int32} {y2 : Int32} (q : (vp_in (58 + x1) 865) ∧ ((h.1 271 (58 + x1 : Int32).toNatClampNeg) = (1 : Int32) → lx_X9_laysTree nc C Q 99 [.ref (270), .int (x1), tf_z, tf_z, tf_z] [.int ((-10000)), .int (100 + x1), .int (y2), .int (y1), .ref (270)] h) ∧ (¬ (h.1 271 (58 + x1 : Int32).toNatClampNeg) = (1 : Int32) → lx_X9_laysTree nc C Q 96 [.ref (270), .int (x1), tf_z, tf_z, tf_z] [.int (100 + x1), .int (y2), .int (y1), .ref (270)] h)) : lx_X9_laysTree nc C Q 73 [.ref (270), .int (x1), tf_z, tf_z, tf_z] [.int (y2), .int (y1), .ref (270)] h := by
  refine tf_LW_go ?_
  exact ⟨⟨(by first | rfl | trivial), (show 270 < nc by omega)⟩, ⟨⟨(by first | rfl | trivial), (show 271 < nc by omega), q.1⟩, ⟨fun c1 => (q.2.1 c1), q.2.2⟩⟩⟩
set_option maxRecDepth 100000 in
theorem go_X9_laysTree_96 {nc : Nat} {C : tf_C} {Q : tf_Q} {h : LH} (hn : 297 ≤ nc) {x1 : Int32} {y1 : Int32} {y2 : Int32} {y3 : Int32} (q : lx_X9_laysTree nc C Q 99 [.ref (270), .int (x1), tf_z, tf_z, tf_z] [.int (10000), .int (y3), .int (y2), .int (y1), .ref (270)] h) : lx_X9_laysTree nc C Q 96 [.ref (270), .int (x1), tf_z, tf_z, tf_z] [.int (y3), .int (y2), .int (y1), .ref (270)] h := by
  refine tf_LW_go ?_
  exact q
set_option maxRecDepth 100000 in
theorem go_X9_laysTree_99 {nc : Nat} {C : tf_C} {Q : tf_Q} {h : LH} (hn : 297 ≤ nc) {x1 : Int32} {y1 : Int32} {y2 : Int32} {y3 : Int32} {y4 : Int32} (q : C 29 [.ref (270), .int (y1), .int (y2), .int (y3), .int (y4)] h (fun r g => lx_X9_laysTree nc C Q 102 [.ref (270), .int (x1), tf_z, tf_z, tf_z] [] g)) : lx_X9_laysTree nc C Q 99 [.ref (270), .int (x1), tf_z, tf_z, tf_z] [.int (y4), .int (y3), .int (y2), .int (y1), .ref (270)] h := by
  refine tf_LW_go ?_
  exact ⟨Nat.le_of_ble_eq_true rfl, Nat.le_of_ble_eq_true rfl, q⟩
set_option maxRecDepth 100000 in
theorem go_X9_laysTree_102 {nc : Nat} {C : tf_C} {Q : tf_Q} {h : LH} (hn : 297 ≤ nc) {x1 : Int32} (q : lx_X9_laysTree nc C Q 44 [.ref (270), .int (x1 + 1), tf_z, tf_z, tf_z] [] h) : lx_X9_laysTree nc C Q 102 [.ref (270), .int (x1), tf_z, tf_z, tf_z] [] h := by
  refine tf_LW_go ?_
  exact q
set_option maxRecDepth 100000 in
theorem go_X9_laysTree_108 {nc : Nat} {C : tf_C} {Q : tf_Q} {h : LH} (hn : 297 ≤ nc) {x1 : Int32} (q : lx_X9_laysTree nc C Q 110 [.ref (270), .int (0), tf_z, tf_z, tf_z] [] h) : lx_X9_laysTree nc C Q 108 [.ref (270), .int (x1), tf_z, tf_z, tf_z] [] h := by
  refine tf_LW_go ?_
  exact q
set_option maxRecDepth 100000 in
theorem go_X9_laysTree_110 {nc : Nat} {C : tf_C} {Q : tf_Q} {h : LH} (hn : 297 ≤ nc) {x1 : Int32} {x2 : Value} {x3 : Value} {x4 : Value} (q : ((h.1 271 (0 : Int32).toNatClampNeg) ≤ x1 → lx_X9_laysTree nc C Q 263 [.ref (270), .int (x1), x2, x3, x4] [] h) ∧ (¬ (h.1 271 (0 : Int32).toNatClampNeg) ≤ x1 → lx_X9_laysTree nc C Q 122 [.ref (270), .int (x1), .int (0), x3, x4] [] h)) : lx_X9_laysTree nc C Q 110 [.ref (270), .int (x1), x2, x3, x4] [] h := by
  refine tf_LW_go ?_
  exact ⟨⟨(by first | rfl | trivial), (show 270 < nc by omega)⟩, ⟨⟨(by first | rfl | trivial), (show 271 < nc by omega), (vp_in_iff.mpr (by decide))⟩, ⟨q.1, fun c1 => (q.2 c1)⟩⟩⟩
set_option maxRecDepth 100000 in
theorem go_X9_laysTree_122 {nc : Nat} {C : tf_C} {Q : tf_Q} {h : LH} (hn : 297 ≤ nc) {x1 : Int32} {x2 : Int32} {x3 : Value} {x4 : Value} (q : ((h.1 271 (1 : Int32).toNatClampNeg) ≤ x2 → lx_X9_laysTree nc C Q 257 [.ref (270), .int (x1), .int (x2), x3, x4] [] h) ∧ (¬ (h.1 271 (1 : Int32).toNatClampNeg) ≤ x2 → C 3 [.ref (270), .int (x2), .int (0)] h (fun r g => lx_X9_laysTree nc C Q 138 [.ref (270), .int (x1), .int (x2), x3, x4] (r :: []) g))) : lx_X9_laysTree nc C Q 122 [.ref (270), .int (x1), .int (x2), x3, x4] [] h := by
  refine tf_LW_go ?_
  exact ⟨⟨(by first | rfl | trivial), (show 270 < nc by omega)⟩, ⟨⟨(by first | rfl | trivial), (show 271 < nc by omega), (vp_in_iff.mpr (by decide))⟩, ⟨q.1, fun c1 => ⟨Nat.le_of_ble_eq_true rfl, Nat.le_of_ble_eq_true rfl, (q.2 c1)⟩⟩⟩⟩
set_option maxRecDepth 100000 in
theorem go_X9_laysTree_138 {nc : Nat} {C : tf_C} {Q : tf_Q} {h : LH} (hn : 297 ≤ nc) {x1 : Int32} {x2 : Int32} {x3 : Value} {x4 : Value} {y0 : Int32} (q : C 3 [.ref (270), .int (x2), .int (1)] h (fun r g => lx_X9_laysTree nc C Q 145 [.ref (270), .int (x1), .int (x2), .int (y0), x4] (r :: []) g)) : lx_X9_laysTree nc C Q 138 [.ref (270), .int (x1), .int (x2), x3, x4] [.int (y0)] h := by
  refine tf_LW_go ?_
  exact ⟨Nat.le_of_ble_eq_true rfl, Nat.le_of_ble_eq_true rfl, q⟩
set_option maxRecDepth 100000 in
theorem go_X9_laysTree_145 {nc : Nat} {C : tf_C} {Q : tf_Q} {h : LH} (hn : 297 ≤ nc) {x1 : Int32} {x2 : Int32} {x3 : Int32} {x4 : Value} {y0 : Int32} (q : C 28 [.ref (270), .int (x2)] h (fun r g => lx_X9_laysTree nc C Q 152 [.ref (270), .int (x1), .int (x2), .int (x3), .int (y0)] (r :: []) g)) : lx_X9_laysTree nc C Q 145 [.ref (270), .int (x1), .int (x2), .int (x3), x4] [.int (y0)] h := by
  refine tf_LW_go ?_
  exact ⟨Nat.le_of_ble_eq_true rfl, Nat.le_of_ble_eq_true rfl, q⟩
set_option maxRecDepth 100000 in
theorem go_X9_laysTree_152 {nc : Nat} {C : tf_C} {Q : tf_Q} {h : LH} (hn : 297 ≤ nc) {x1 : Int32} {x2 : Int32} {x3 : Int32} {x4 : Int32} {y0 : Int32} (q : (y0 = (0 : Int32) → lx_X9_laysTree nc C Q 200 [.ref (270), .int (x1), .int (x2), .int (x3), .int (x4)] [] h) ∧ (¬ y0 = (0 : Int32) → (vp_in x3 8) ∧ ((h.1 281 (x3 : Int32).toNatClampNeg) = ((-1) : Int32) → lx_X9_laysTree nc C Q 200 [.ref (270), .int (x1), .int (x2), .int (x3), .int (x4)] [] h) ∧ (¬ (h.1 281 (x3 : Int32).toNatClampNeg) = ((-1) : Int32) → (vp_in x4 8) ∧ ((h.1 281 (x4 : Int32).toNatClampNeg) = ((-1) : Int32) → (vp_in x3 8) ∧ C 3 [.ref (270), .int (x2), .int (3)] h (fun r g => lx_X9_laysTree nc C Q 193 [.ref (270), .int (x1), .int (x2), .int (x3), .int (x4)] (r :: [.int (h.1 284 (x3 : Int32).toNatClampNeg), .int (x2), .int (x3), .int (x4), .ref (270)]) g)) ∧ (¬ (h.1 281 (x4 : Int32).toNatClampNeg) = ((-1) : Int32) → lx_X9_laysTree nc C Q 200 [.ref (270), .int (x1), .int (x2), .int (x3), .int (x4)] [] h)))) : lx_X9_laysTree nc C Q 152 [.ref (270), .int (x1), .int (x2), .int (x3), .int (x4)] [.int (y0)] h := by
  refine tf_LW_go ?_
  exact ⟨q.1, fun c3 => ⟨⟨(by first | rfl | trivial), (show 270 < nc by omega)⟩, ⟨⟨(by first | rfl | trivial), (show 281 < nc by omega), (q.2 c3).1⟩, ⟨(q.2 c3).2.1, fun c2 => ⟨⟨(by first | rfl | trivial), (show 270 < nc by omega)⟩, ⟨⟨(by first | rfl | trivial), (show 281 < nc by omega), ((q.2 c3).2.2 c2).1⟩, ⟨fun c1 => ⟨⟨(by first | rfl | trivial), (show 270 < nc by omega)⟩, ⟨⟨(by first | rfl | trivial), (show 284 < nc by omega), (((q.2 c3).2.2 c2).2.1 c1).1⟩, ⟨Nat.le_of_ble_eq_true rfl, Nat.le_of_ble_eq_true rfl, (((q.2 c3).2.2 c2).2.1 c1).2⟩⟩⟩, ((q.2 c3).2.2 c2).2.2⟩⟩⟩⟩⟩⟩⟩
set_option maxRecDepth 100000 in
theorem go_X9_laysTree_193 {nc : Nat} {C : tf_C} {Q : tf_Q} {h : LH} (hn : 297 ≤ nc) {x1 : Int32} {x2 : Int32} {x3 : Int32} {x4 : Int32} {y1 : Int32} {y2 : Int32} {y3 : Int32} {y4 : Int32} {y5 : Int32} (q : C 29 [.ref (270), .int (y1), .int (y2), .int (y3), .int (y4 + y5)] h (fun r g => lx_X9_laysTree nc C Q 197 [.ref (270), .int (x1), .int (x2), .int (x3), .int (x4)] [] g)) : lx_X9_laysTree nc C Q 193 [.ref (270), .int (x1), .int (x2), .int (x3), .int (x4)] [.int (y5), .int (y4), .int (y3), .int (y2), .int (y1), .ref (270)] h := by
  refine tf_LW_go ?_
  exact ⟨Nat.le_of_ble_eq_true rfl, Nat.le_of_ble_eq_true rfl, q⟩
set_option maxRecDepth 100000 in
theorem go_X9_laysTree_197 {nc : Nat} {C : tf_C} {Q : tf_Q} {h : LH} (hn : 297 ≤ nc) {x1 : Int32} {x2 : Int32} {x3 : Int32} {x4 : Int32} (q : lx_X9_laysTree nc C Q 251 [.ref (270), .int (x1), .int (x2), .int (x3), .int (x4)] [] h) : lx_X9_laysTree nc C Q 197 [.ref (270), .int (x1), .int (x2), .int (x3), .int (x4)] [] h := by
  refine tf_LW_go ?_
  exact q
set_option maxRecDepth 100000 in
theorem go_X9_laysTree_200 {nc : Nat} {C : tf_C} {Q : tf_Q} {h : LH} (hn : 297 ≤ nc) {x1 : Int32} {x2 : Int32} {x3 : Int32} {x4 : Int32} (q : C 28 [.ref (270), .int (x2)] h (fun r g => lx_X9_laysTree nc C Q 205 [.ref (270), .int (x1), .int (x2), .int (x3), .int (x4)] (r :: []) g)) : lx_X9_laysTree nc C Q 200 [.ref (270), .int (x1), .int (x2), .int (x3), .int (x4)] [] h := by
  refine tf_LW_go ?_
  exact ⟨Nat.le_of_ble_eq_true rfl, Nat.le_of_ble_eq_true rfl, q⟩
set_option maxRecDepth 100000 in
theorem go_X9_laysTree_205 {nc : Nat} {C : tf_C} {Q : tf_Q} {h : LH} (hn : 297 ≤ nc) {x1 : Int32} {x2 : Int32} {x3 : Int32} {x4 : Int32} {y0 : Int32} (q : (y0 = (0 : Int32) → lx_X9_laysTree nc C Q 251 [.ref (270), .int (x1), .int (x2), .int (x3), .int (x4)] [] h) ∧ (¬ y0 = (0 : Int32) → (vp_in x4 8) ∧ ((h.1 281 (x4 : Int32).toNatClampNeg) = ((-1) : Int32) → lx_X9_laysTree nc C Q 251 [.ref (270), .int (x1), .int (x2), .int (x3), .int (x4)] [] h) ∧ (¬ (h.1 281 (x4 : Int32).toNatClampNeg) = ((-1) : Int32) → (vp_in x3 8) ∧ ((h.1 281 (x3 : Int32).toNatClampNeg) = ((-1) : Int32) → (vp_in x4 8) ∧ C 3 [.ref (270), .int (x2), .int (3)] h (fun r g => lx_X9_laysTree nc C Q 247 [.ref (270), .int (x1), .int (x2), .int (x3), .int (x4)] (r :: [.int (h.1 284 (x4 : Int32).toNatClampNeg), .int (x2), .int (x4), .int (x3), .ref (270)]) g)) ∧ (¬ (h.1 281 (x3 : Int32).toNatClampNeg) = ((-1) : Int32) → lx_X9_laysTree nc C Q 251 [.ref (270), .int (x1), .int (x2), .int (x3), .int (x4)] [] h)))) : lx_X9_laysTree nc C Q 205 [.ref (270), .int (x1), .int (x2), .int (x3), .int (x4)] [.int (y0)] h := by
  refine tf_LW_go ?_
  exact ⟨q.1, fun c3 => ⟨⟨(by first | rfl | trivial), (show 270 < nc by omega)⟩, ⟨⟨(by first | rfl | trivial), (show 281 < nc by omega), (q.2 c3).1⟩, ⟨(q.2 c3).2.1, fun c2 => ⟨⟨(by first | rfl | trivial), (show 270 < nc by omega)⟩, ⟨⟨(by first | rfl | trivial), (show 281 < nc by omega), ((q.2 c3).2.2 c2).1⟩, ⟨fun c1 => ⟨⟨(by first | rfl | trivial), (show 270 < nc by omega)⟩, ⟨⟨(by first | rfl | trivial), (show 284 < nc by omega), (((q.2 c3).2.2 c2).2.1 c1).1⟩, ⟨Nat.le_of_ble_eq_true rfl, Nat.le_of_ble_eq_true rfl, (((q.2 c3).2.2 c2).2.1 c1).2⟩⟩⟩, ((q.2 c3).2.2 c2).2.2⟩⟩⟩⟩⟩⟩⟩
set_option maxRecDepth 100000 in
theorem go_X9_laysTree_247 {nc : Nat} {C : tf_C} {Q : tf_Q} {h : LH} (hn : 297 ≤ nc) {x1 : Int32} {x2 : Int32} {x3 : Int32} {x4 : Int32} {y1 : Int32} {y2 : Int32} {y3 : Int32} {y4 : Int32} {y5 : Int32} (q : C 29 [.ref (270), .int (y1), .int (y2), .int (y3), .int (y4 - y5)] h (fun r g => lx_X9_laysTree nc C Q 251 [.ref (270), .int (x1), .int (x2), .int (x3), .int (x4)] [] g)) : lx_X9_laysTree nc C Q 247 [.ref (270), .int (x1), .int (x2), .int (x3), .int (x4)] [.int (y5), .int (y4), .int (y3), .int (y2), .int (y1), .ref (270)] h := by
  refine tf_LW_go ?_
  exact ⟨Nat.le_of_ble_eq_true rfl, Nat.le_of_ble_eq_true rfl, q⟩
set_option maxRecDepth 100000 in
theorem go_X9_laysTree_251 {nc : Nat} {C : tf_C} {Q : tf_Q} {h : LH} (hn : 297 ≤ nc) {x1 : Int32} {x2 : Int32} {x3 : Int32} {x4 : Int32} (q : lx_X9_laysTree nc C Q 122 [.ref (270), .int (x1), .int (x2 + 1), .int (x3), .int (x4)] [] h) : lx_X9_laysTree nc C Q 251 [.ref (270), .int (x1), .int (x2), .int (x3), .int (x4)] [] h := by
  refine tf_LW_go ?_
  exact q
set_option maxRecDepth 100000 in
theorem go_X9_laysTree_257 {nc : Nat} {C : tf_C} {Q : tf_Q} {h : LH} (hn : 297 ≤ nc) {x1 : Int32} {x2 : Int32} {x3 : Value} {x4 : Value} (q : lx_X9_laysTree nc C Q 110 [.ref (270), .int (x1 + 1), .int (x2), x3, x4] [] h) : lx_X9_laysTree nc C Q 257 [.ref (270), .int (x1), .int (x2), x3, x4] [] h := by
  refine tf_LW_go ?_
  exact q
set_option maxRecDepth 100000 in
theorem go_X9_laysTree_263 {nc : Nat} {C : tf_C} {Q : tf_Q} {h : LH} (hn : 297 ≤ nc) {x1 : Int32} {x2 : Value} {x3 : Value} {x4 : Value} (q : Q tf_z h) : lx_X9_laysTree nc C Q 263 [.ref (270), .int (x1), x2, x3, x4] [] h := by
  refine tf_LW_go ?_
  exact ⟨(by first | rfl | trivial), q⟩
abbrev lx_X9_reduced (nc : Nat) (C : tf_C) (Q : tf_Q) : tf_X := tf_LW nc C (tf_F 7) (tf_M 7) (tf_I 7) (tf_Eh 31) 1 tb_X9_reduced Q
set_option maxRecDepth 100000 in
theorem go_X9_reduced_0 {nc : Nat} {C : tf_C} {Q : tf_Q} {h : LH} (hn : 297 ≤ nc) {x1 : Int32} (q : C 3 [.ref (270), .int (x1), .int (3)] h (fun r g => lx_X9_reduced nc C Q 6 [.ref (270), .int (x1)] (r :: []) g)) : lx_X9_reduced nc C Q 0 [.ref (270), .int (x1)] [] h := by
  refine tf_LW_go ?_
  exact ⟨Nat.le_of_ble_eq_true rfl, Nat.le_of_ble_eq_true rfl, q⟩
theorem en_X9_reduced {nc d : Nat} {Q : tf_Q} {h : LH} (hn : 297 ≤ nc) {x1 : Int32} (q : lx_X9_reduced nc (tf_Cd nc d) Q 0 [.ref (270), .int (x1)] [] h) : tf_Cd nc (d + 1) 31 [.ref (270), .int (x1)] h Q := by
  exact ⟨⟨Nat.le_of_ble_eq_true rfl, Or.inr ⟨rfl, (show 270 < nc by omega)⟩⟩, q⟩
set_option maxRecDepth 100000 in
theorem go_X9_reduced_6 {nc : Nat} {C : tf_C} {Q : tf_Q} {h : LH} (hn : 297 ≤ nc) {x1 : Int32} {y0 : Int32} (q : C 3 [.ref (270), .int (x1), .int (0)] h (fun r g => lx_X9_reduced nc C Q 16 [.ref (270), .int (x1)] (r :: [.ref (284), .int (y0)]) g)) : lx_X9_reduced nc C Q 6 [.ref (270), .int (x1)] [.int (y0)] h := by
  refine tf_LW_go ?_
  exact ⟨⟨(by first | rfl | trivial), (show 270 < nc by omega)⟩, ⟨Nat.le_of_ble_eq_true rfl, Nat.le_of_ble_eq_true rfl, q⟩⟩
set_option maxRecDepth 100000 in
theorem go_X9_reduced_16 {nc : Nat} {C : tf_C} {Q : tf_Q} {h : LH} (hn : 297 ≤ nc) {x1 : Int32} {y0 : Int32} {y1 ny1 : Nat} {y2 : Int32} (Ky1_0 : tf_K y1 = 8) (Ny1_0 : tf_N y1 = ny1) (By1 : y1 < nc) (q : (vp_in y2 ny1) ∧ C 3 [.ref (270), .int (x1), .int (1)] h (fun r g => lx_X9_reduced nc C Q 28 [.ref (270), .int (x1)] (r :: [.ref (284), .int (y0 + (h.1 y1 (y2 : Int32).toNatClampNeg))]) g)) : lx_X9_reduced nc C Q 16 [.ref (270), .int (x1)] [.int (y2), .ref (y1), .int (y0)] h := by
  refine tf_LW_go ?_
  show (tf_K y1 = 8 ∧ y1 < nc ∧ vp_in y2 (tf_N y1)) ∧ (tf_K 270 = 7 ∧ 270 < nc) ∧ 3 ≤ 5 ∧ 2 ≤ 8 ∧ C 3 [.ref (270), .int (x1), .int (1)] h (fun r g => lx_X9_reduced nc C Q 28 [.ref (270), .int (x1)] (r :: [.ref (284), .int (y0 + (h.1 y1 (y2 : Int32).toNatClampNeg))]) g)
  try simp only [Ny1_0]
  exact ⟨⟨Ky1_0, (show y1 < nc by omega), q.1⟩, ⟨⟨(by first | rfl | trivial), (show 270 < nc by omega)⟩, ⟨Nat.le_of_ble_eq_true rfl, Nat.le_of_ble_eq_true rfl, q.2⟩⟩⟩
set_option maxRecDepth 100000 in
theorem go_X9_reduced_28 {nc : Nat} {C : tf_C} {Q : tf_Q} {h : LH} (hn : 297 ≤ nc) {x1 : Int32} {y0 : Int32} {y1 ny1 : Nat} {y2 : Int32} (Ky1_0 : tf_K y1 = 8) (Ny1_0 : tf_N y1 = ny1) (By1 : y1 < nc) (q : (vp_in y2 ny1) ∧ Q (.int (y0 - (h.1 y1 (y2 : Int32).toNatClampNeg))) h) : lx_X9_reduced nc C Q 28 [.ref (270), .int (x1)] [.int (y2), .ref (y1), .int (y0)] h := by
  refine tf_LW_go ?_
  show (tf_K y1 = 8 ∧ y1 < nc ∧ vp_in y2 (tf_N y1)) ∧ tf_rb 1 (y0 - (h.1 y1 (y2 : Int32).toNatClampNeg)) ∧ Q (.int (y0 - (h.1 y1 (y2 : Int32).toNatClampNeg))) h
  try simp only [Ny1_0]
  exact ⟨⟨Ky1_0, (show y1 < nc by omega), q.1⟩, ⟨(by first | trivial | rfl), q.2⟩⟩
abbrev lx_X9_offers (nc : Nat) (C : tf_C) (Q : tf_Q) : tf_X := tf_LW nc C (tf_F 7) (tf_M 7) (tf_I 7) (tf_Eh 32) 2 tb_X9_offers Q
set_option maxRecDepth 100000 in
theorem go_X9_offers_0 {nc : Nat} {C : tf_C} {Q : tf_Q} {h : LH} (hn : 297 ≤ nc) {x1 : Int32} (q : C 31 [.ref (270), .int (x1)] h (fun r g => lx_X9_offers nc C Q 5 [.ref (270), .int (x1), tf_z] (r :: []) g)) : lx_X9_offers nc C Q 0 [.ref (270), .int (x1), tf_z] [] h := by
  refine tf_LW_go ?_
  exact ⟨Nat.le_of_ble_eq_true rfl, Nat.le_of_ble_eq_true rfl, q⟩
theorem en_X9_offers {nc d : Nat} {Q : tf_Q} {h : LH} (hn : 297 ≤ nc) {x1 : Int32} (q : lx_X9_offers nc (tf_Cd nc d) Q 0 [.ref (270), .int (x1), tf_z] [] h) : tf_Cd nc (d + 1) 32 [.ref (270), .int (x1)] h Q := by
  exact ⟨⟨Nat.le_of_ble_eq_true rfl, Or.inr ⟨rfl, (show 270 < nc by omega)⟩⟩, q⟩
set_option maxRecDepth 100000 in
theorem go_X9_offers_5 {nc : Nat} {C : tf_C} {Q : tf_Q} {h : LH} (hn : 297 ≤ nc) {x1 : Int32} {y0 : Int32} (q : C 3 [.ref (270), .int (x1), .int (6)] h (fun r g => lx_X9_offers nc C Q 13 [.ref (270), .int (x1), .int (y0)] (r :: []) g)) : lx_X9_offers nc C Q 5 [.ref (270), .int (x1), tf_z] [.int (y0)] h := by
  refine tf_LW_go ?_
  exact ⟨Nat.le_of_ble_eq_true rfl, Nat.le_of_ble_eq_true rfl, q⟩
set_option maxRecDepth 100000 in
theorem go_X9_offers_13 {nc : Nat} {C : tf_C} {Q : tf_Q} {h : LH} (hn : 297 ≤ nc) {x1 : Int32} {x2 : Int32} {y0 : Int32} (q : (y0 = (0 : Int32) → C 3 [.ref (270), .int (x1), .int (2)] h (fun r g => lx_X9_offers nc C Q 22 [.ref (270), .int (x1), .int (x2)] (r :: []) g)) ∧ (¬ y0 = (0 : Int32) → lx_X9_offers nc C Q 56 [.ref (270), .int (x1), .int (x2)] [] h)) : lx_X9_offers nc C Q 13 [.ref (270), .int (x1), .int (x2)] [.int (y0)] h := by
  refine tf_LW_go ?_
  exact ⟨fun c1 => ⟨Nat.le_of_ble_eq_true rfl, Nat.le_of_ble_eq_true rfl, (q.1 c1)⟩, q.2⟩
set_option maxRecDepth 100000 in
theorem go_X9_offers_22 {nc : Nat} {C : tf_C} {Q : tf_Q} {h : LH} (hn : 297 ≤ nc) {x1 : Int32} {x2 : Int32} {y0 : Int32} (q : (y0 ≤ (0 : Int32) → lx_X9_offers nc C Q 56 [.ref (270), .int (x1), .int (x2)] [] h) ∧ (¬ y0 ≤ (0 : Int32) → C 3 [.ref (270), .int (x1), .int (5)] h (fun r g => lx_X9_offers nc C Q 31 [.ref (270), .int (x1), .int (x2)] (r :: []) g))) : lx_X9_offers nc C Q 22 [.ref (270), .int (x1), .int (x2)] [.int (y0)] h := by
  refine tf_LW_go ?_
  exact ⟨q.1, fun c1 => ⟨Nat.le_of_ble_eq_true rfl, Nat.le_of_ble_eq_true rfl, (q.2 c1)⟩⟩
set_option maxRecDepth 100000 in
theorem go_X9_offers_31 {nc : Nat} {C : tf_C} {Q : tf_Q} {h : LH} (hn : 297 ≤ nc) {x1 : Int32} {x2 : Int32} {y0 : Int32} (q : (y0 = (0 : Int32) → (x2 < (0 : Int32) → lx_X9_offers nc C Q 52 [.ref (270), .int (x1), .int (x2)] [] h) ∧ (¬ x2 < (0 : Int32) → lx_X9_offers nc C Q 38 [.ref (270), .int (x1), .int (x2)] [] h)) ∧ (¬ y0 = (0 : Int32) → lx_X9_offers nc C Q 38 [.ref (270), .int (x1), .int (x2)] [] h)) : lx_X9_offers nc C Q 31 [.ref (270), .int (x1), .int (x2)] [.int (y0)] h := by
  refine tf_LW_go ?_
  exact ⟨fun c2 => ⟨(q.1 c2).1, fun c1 => ((q.1 c2).2 c1)⟩, q.2⟩
set_option maxRecDepth 100000 in
theorem go_X9_offers_38 {nc : Nat} {C : tf_C} {Q : tf_Q} {h : LH} (hn : 297 ≤ nc) {x1 : Int32} {x2 : Int32} (q : C 3 [.ref (270), .int (x1), .int (5)] h (fun r g => lx_X9_offers nc C Q 44 [.ref (270), .int (x1), .int (x2)] (r :: []) g)) : lx_X9_offers nc C Q 38 [.ref (270), .int (x1), .int (x2)] [] h := by
  refine tf_LW_go ?_
  exact ⟨Nat.le_of_ble_eq_true rfl, Nat.le_of_ble_eq_true rfl, q⟩
set_option maxRecDepth 100000 in
theorem go_X9_offers_44 {nc : Nat} {C : tf_C} {Q : tf_Q} {h : LH} (hn : 297 ≤ nc) {x1 : Int32} {x2 : Int32} {y0 : Int32} (q : (y0 = (1 : Int32) → (x2 ≤ (0 : Int32) → lx_X9_offers nc C Q 56 [.ref (270), .int (x1), .int (x2)] [] h) ∧ (¬ x2 ≤ (0 : Int32) → lx_X9_offers nc C Q 52 [.ref (270), .int (x1), .int (x2)] [] h)) ∧ (¬ y0 = (1 : Int32) → lx_X9_offers nc C Q 56 [.ref (270), .int (x1), .int (x2)] [] h)) : lx_X9_offers nc C Q 44 [.ref (270), .int (x1), .int (x2)] [.int (y0)] h := by
  refine tf_LW_go ?_
  exact ⟨fun c2 => ⟨(q.1 c2).1, fun c1 => ((q.1 c2).2 c1)⟩, q.2⟩
set_option maxRecDepth 100000 in
theorem go_X9_offers_52 {nc : Nat} {C : tf_C} {Q : tf_Q} {h : LH} (hn : 297 ≤ nc) {x1 : Int32} {x2 : Int32} (q : lx_X9_offers nc C Q 57 [.ref (270), .int (x1), .int (x2)] [.int (1)] h) : lx_X9_offers nc C Q 52 [.ref (270), .int (x1), .int (x2)] [] h := by
  refine tf_LW_go ?_
  exact q
set_option maxRecDepth 100000 in
theorem go_X9_offers_56 {nc : Nat} {C : tf_C} {Q : tf_Q} {h : LH} (hn : 297 ≤ nc) {x1 : Int32} {x2 : Int32} (q : lx_X9_offers nc C Q 57 [.ref (270), .int (x1), .int (x2)] [.int (0)] h) : lx_X9_offers nc C Q 56 [.ref (270), .int (x1), .int (x2)] [] h := by
  refine tf_LW_go ?_
  exact q
set_option maxRecDepth 100000 in
theorem go_X9_offers_57 {nc : Nat} {C : tf_C} {Q : tf_Q} {h : LH} (hn : 297 ≤ nc) {x1 : Int32} {x2 : Int32} {y0 : Int32} (q : (vp_nar .boolean (y0) = (y0)) ∧ Q (.int (y0)) h) : lx_X9_offers nc C Q 57 [.ref (270), .int (x1), .int (x2)] [.int (y0)] h := by
  refine tf_LW_go ?_
  exact q
abbrev lx_X9_isBest (nc : Nat) (C : tf_C) (Q : tf_Q) : tf_X := tf_LW nc C (tf_F 7) (tf_M 7) (tf_I 7) (tf_Eh 33) 2 tb_X9_isBest Q
set_option maxRecDepth 100000 in
theorem go_X9_isBest_0 {nc : Nat} {C : tf_C} {Q : tf_Q} {h : LH} (hn : 297 ≤ nc) (q : C 30 [.ref (270)] h (fun r g => lx_X9_isBest nc C Q 4 [.ref (270)] [] g)) : lx_X9_isBest nc C Q 0 [.ref (270)] [] h := by
  refine tf_LW_go ?_
  exact ⟨Nat.le_of_ble_eq_true rfl, Nat.le_of_ble_eq_true rfl, q⟩
theorem en_X9_isBest {nc d : Nat} {Q : tf_Q} {h : LH} (hn : 297 ≤ nc) (q : lx_X9_isBest nc (tf_Cd nc d) Q 0 [.ref (270)] [] h) : tf_Cd nc (d + 1) 33 [.ref (270)] h Q := by
  exact ⟨⟨Nat.le_of_ble_eq_true rfl, Or.inr ⟨rfl, (show 270 < nc by omega)⟩⟩, q⟩
set_option maxRecDepth 100000 in
theorem go_X9_isBest_4 {nc : Nat} {C : tf_C} {Q : tf_Q} {h : LH} (hn : 297 ≤ nc) (q : C 34 [.ref (270)] h (fun r g => lx_X9_isBest nc C Q 8 [.ref (270)] (r :: []) g)) : lx_X9_isBest nc C Q 4 [.ref (270)] [] h := by
  refine tf_LW_go ?_
  exact ⟨Nat.le_of_ble_eq_true rfl, Nat.le_of_ble_eq_true rfl, q⟩
set_option maxRecDepth 100000 in
theorem go_X9_isBest_8 {nc : Nat} {C : tf_C} {Q : tf_Q} {h : LH} (hn : 297 ≤ nc) {y0 : Int32} (q : (y0 = (0 : Int32) → lx_X9_isBest nc C Q 16 [.ref (270)] [.int (1)] h) ∧ (¬ y0 = (0 : Int32) → lx_X9_isBest nc C Q 15 [.ref (270)] [] h)) : lx_X9_isBest nc C Q 8 [.ref (270)] [.int (y0)] h := by
  refine tf_LW_go ?_
  exact ⟨fun c1 => (q.1 c1), q.2⟩
set_option maxRecDepth 100000 in
theorem go_X9_isBest_15 {nc : Nat} {C : tf_C} {Q : tf_Q} {h : LH} (hn : 297 ≤ nc) (q : lx_X9_isBest nc C Q 16 [.ref (270)] [.int (0)] h) : lx_X9_isBest nc C Q 15 [.ref (270)] [] h := by
  refine tf_LW_go ?_
  exact q
set_option maxRecDepth 100000 in
theorem go_X9_isBest_16 {nc : Nat} {C : tf_C} {Q : tf_Q} {h : LH} (hn : 297 ≤ nc) {y0 : Int32} (q : (vp_nar .boolean (y0) = (y0)) ∧ Q (.int (y0)) h) : lx_X9_isBest nc C Q 16 [.ref (270)] [.int (y0)] h := by
  refine tf_LW_go ?_
  exact q
abbrev lx_X9_offerMany (nc : Nat) (C : tf_C) (Q : tf_Q) : tf_X := tf_LW nc C (tf_F 7) (tf_M 7) (tf_I 7) (tf_Eh 34) 1 tb_X9_offerMany Q
set_option maxRecDepth 100000 in
theorem go_X9_offerMany_0 {nc : Nat} {C : tf_C} {Q : tf_Q} {h : LH} (hn : 297 ≤ nc) (q : lx_X9_offerMany nc C Q 4 [.ref (270), .int (0), .int (0)] [] h) : lx_X9_offerMany nc C Q 0 [.ref (270), tf_z, tf_z] [] h := by
  refine tf_LW_go ?_
  exact q
theorem en_X9_offerMany {nc d : Nat} {Q : tf_Q} {h : LH} (hn : 297 ≤ nc) (q : lx_X9_offerMany nc (tf_Cd nc d) Q 0 [.ref (270), tf_z, tf_z] [] h) : tf_Cd nc (d + 1) 34 [.ref (270)] h Q := by
  exact ⟨⟨Nat.le_of_ble_eq_true rfl, Or.inr ⟨rfl, (show 270 < nc by omega)⟩⟩, q⟩
set_option maxRecDepth 100000 in
theorem go_X9_offerMany_4 {nc : Nat} {C : tf_C} {Q : tf_Q} {h : LH} (hn : 297 ≤ nc) {x1 : Int32} {x2 : Int32} (q : ((h.1 271 (1 : Int32).toNatClampNeg) ≤ x2 → lx_X9_offerMany nc C Q 36 [.ref (270), .int (x1), .int (x2)] [] h) ∧ (¬ (h.1 271 (1 : Int32).toNatClampNeg) ≤ x2 → C 32 [.ref (270), .int (x2)] h (fun r g => lx_X9_offerMany nc C Q 20 [.ref (270), .int (x1), .int (x2)] (r :: [.int (x1)]) g))) : lx_X9_offerMany nc C Q 4 [.ref (270), .int (x1), .int (x2)] [] h := by
  refine tf_LW_go ?_
  exact ⟨⟨(by first | rfl | trivial), (show 270 < nc by omega)⟩, ⟨⟨(by first | rfl | trivial), (show 271 < nc by omega), (vp_in_iff.mpr (by decide))⟩, ⟨q.1, fun c1 => ⟨Nat.le_of_ble_eq_true rfl, Nat.le_of_ble_eq_true rfl, (q.2 c1)⟩⟩⟩⟩
set_option maxRecDepth 100000 in
theorem go_X9_offerMany_20 {nc : Nat} {C : tf_C} {Q : tf_Q} {h : LH} (hn : 297 ≤ nc) {x1 : Int32} {x2 : Int32} {y0 : Int32} {y1 : Int32} (q : (y1 = (0 : Int32) → lx_X9_offerMany nc C Q 27 [.ref (270), .int (x1), .int (x2)] [.int (y0)] h) ∧ (¬ y1 = (0 : Int32) → lx_X9_offerMany nc C Q 28 [.ref (270), .int (x1), .int (x2)] [.int (1), .int (y0)] h)) : lx_X9_offerMany nc C Q 20 [.ref (270), .int (x1), .int (x2)] [.int (y1), .int (y0)] h := by
  refine tf_LW_go ?_
  exact ⟨q.1, fun c1 => (q.2 c1)⟩
set_option maxRecDepth 100000 in
theorem go_X9_offerMany_27 {nc : Nat} {C : tf_C} {Q : tf_Q} {h : LH} (hn : 297 ≤ nc) {x1 : Int32} {x2 : Int32} {y0 : Int32} (q : lx_X9_offerMany nc C Q 28 [.ref (270), .int (x1), .int (x2)] [.int (0), .int (y0)] h) : lx_X9_offerMany nc C Q 27 [.ref (270), .int (x1), .int (x2)] [.int (y0)] h := by
  refine tf_LW_go ?_
  exact q
set_option maxRecDepth 100000 in
theorem go_X9_offerMany_28 {nc : Nat} {C : tf_C} {Q : tf_Q} {h : LH} (hn : 297 ≤ nc) {x1 : Int32} {x2 : Int32} {y0 : Int32} {y1 : Int32} (q : lx_X9_offerMany nc C Q 4 [.ref (270), .int (y0 + y1), .int (x2 + 1)] [] h) : lx_X9_offerMany nc C Q 28 [.ref (270), .int (x1), .int (x2)] [.int (y1), .int (y0)] h := by
  refine tf_LW_go ?_
  exact q
set_option maxRecDepth 100000 in
theorem go_X9_offerMany_36 {nc : Nat} {C : tf_C} {Q : tf_Q} {h : LH} (hn : 297 ≤ nc) {x1 : Int32} {x2 : Int32} (q : Q (.int (x1)) h) : lx_X9_offerMany nc C Q 36 [.ref (270), .int (x1), .int (x2)] [] h := by
  refine tf_LW_go ?_
  exact ⟨(by first | trivial | rfl), q⟩
abbrev lx_X9_farOf (nc : Nat) (C : tf_C) (Q : tf_Q) : tf_X := tf_LW nc C (tf_F 7) (tf_M 7) (tf_I 7) (tf_Eh 35) 1 tb_X9_farOf Q
set_option maxRecDepth 100000 in
theorem go_X9_farOf_0 {nc : Nat} {C : tf_C} {Q : tf_Q} {h : LH} (hn : 297 ≤ nc) {x1 : Int32} (q : C 31 [.ref (270), .int (x1)] h (fun r g => lx_X9_farOf nc C Q 5 [.ref (270), .int (x1), tf_z] (r :: []) g)) : lx_X9_farOf nc C Q 0 [.ref (270), .int (x1), tf_z] [] h := by
  refine tf_LW_go ?_
  exact ⟨Nat.le_of_ble_eq_true rfl, Nat.le_of_ble_eq_true rfl, q⟩
theorem en_X9_farOf {nc d : Nat} {Q : tf_Q} {h : LH} (hn : 297 ≤ nc) {x1 : Int32} (q : lx_X9_farOf nc (tf_Cd nc d) Q 0 [.ref (270), .int (x1), tf_z] [] h) : tf_Cd nc (d + 1) 35 [.ref (270), .int (x1)] h Q := by
  exact ⟨⟨Nat.le_of_ble_eq_true rfl, Or.inr ⟨rfl, (show 270 < nc by omega)⟩⟩, q⟩
set_option maxRecDepth 100000 in
theorem go_X9_farOf_5 {nc : Nat} {C : tf_C} {Q : tf_Q} {h : LH} (hn : 297 ≤ nc) {x1 : Int32} {y0 : Int32} (q : ((0 : Int32) ≤ y0 → lx_X9_farOf nc C Q 15 [.ref (270), .int (x1), .int (y0)] [] h) ∧ (¬ (0 : Int32) ≤ y0 → lx_X9_farOf nc C Q 16 [.ref (270), .int (x1), .int (y0)] [.int (-y0)] h)) : lx_X9_farOf nc C Q 5 [.ref (270), .int (x1), tf_z] [.int (y0)] h := by
  refine tf_LW_go ?_
  exact ⟨q.1, fun c1 => (q.2 c1)⟩
set_option maxRecDepth 100000 in
theorem go_X9_farOf_15 {nc : Nat} {C : tf_C} {Q : tf_Q} {h : LH} (hn : 297 ≤ nc) {x1 : Int32} {x2 : Int32} (q : lx_X9_farOf nc C Q 16 [.ref (270), .int (x1), .int (x2)] [.int (x2)] h) : lx_X9_farOf nc C Q 15 [.ref (270), .int (x1), .int (x2)] [] h := by
  refine tf_LW_go ?_
  exact q
set_option maxRecDepth 100000 in
theorem go_X9_farOf_16 {nc : Nat} {C : tf_C} {Q : tf_Q} {h : LH} (hn : 297 ≤ nc) {x1 : Int32} {x2 : Int32} {y0 : Int32} (q : Q (.int (y0)) h) : lx_X9_farOf nc C Q 16 [.ref (270), .int (x1), .int (x2)] [.int (y0)] h := by
  refine tf_LW_go ?_
  exact ⟨(by first | trivial | rfl), q⟩
abbrev lx_X9_enters (nc : Nat) (C : tf_C) (Q : tf_Q) : tf_X := tf_LW nc C (tf_F 7) (tf_M 7) (tf_I 7) (tf_Eh 36) 1 tb_X9_enters Q
set_option maxRecDepth 100000 in
theorem go_X9_enters_0 {nc : Nat} {C : tf_C} {Q : tf_Q} {h : LH} (hn : 297 ≤ nc) (q : lx_X9_enters nc C Q 4 [.ref (270), .int ((-1)), .int (0), tf_z, tf_z] [] h) : lx_X9_enters nc C Q 0 [.ref (270), tf_z, tf_z, tf_z, tf_z] [] h := by
  refine tf_LW_go ?_
  exact q
theorem en_X9_enters {nc d : Nat} {Q : tf_Q} {h : LH} (hn : 297 ≤ nc) (q : lx_X9_enters nc (tf_Cd nc d) Q 0 [.ref (270), tf_z, tf_z, tf_z, tf_z] [] h) : tf_Cd nc (d + 1) 36 [.ref (270)] h Q := by
  exact ⟨⟨Nat.le_of_ble_eq_true rfl, Or.inr ⟨rfl, (show 270 < nc by omega)⟩⟩, q⟩
set_option maxRecDepth 100000 in
theorem go_X9_enters_4 {nc : Nat} {C : tf_C} {Q : tf_Q} {h : LH} (hn : 297 ≤ nc) {x1 : Int32} {x2 : Int32} {x3 : Value} {x4 : Value} (q : ((h.1 271 (1 : Int32).toNatClampNeg) ≤ x2 → lx_X9_enters nc C Q 110 [.ref (270), .int (x1), .int (x2), x3, x4] [] h) ∧ (¬ (h.1 271 (1 : Int32).toNatClampNeg) ≤ x2 → ((h.1 271 (2 : Int32).toNatClampNeg) = (2 : Int32) → (¬ (h.1 271 (1 : Int32).toNatClampNeg) = (0 : Int32)) ∧ lx_X9_enters nc C Q 46 [.ref (270), .int (x1), .int (x2), x3, x4] [.int ((((h.1 271 (6 : Int32).toNatClampNeg) + 1) + x2) - (((h.1 271 (6 : Int32).toNatClampNeg) + 1) + x2) / (h.1 271 (1 : Int32).toNatClampNeg) * (h.1 271 (1 : Int32).toNatClampNeg))] h) ∧ (¬ (h.1 271 (2 : Int32).toNatClampNeg) = (2 : Int32) → lx_X9_enters nc C Q 45 [.ref (270), .int (x1), .int (x2), x3, x4] [] h))) : lx_X9_enters nc C Q 4 [.ref (270), .int (x1), .int (x2), x3, x4] [] h := by
  refine tf_LW_go ?_
  exact ⟨⟨(by first | rfl | trivial), (show 270 < nc by omega)⟩, ⟨⟨(by first | rfl | trivial), (show 271 < nc by omega), (vp_in_iff.mpr (by decide))⟩, ⟨q.1, fun c2 => ⟨⟨(by first | rfl | trivial), (show 270 < nc by omega)⟩, ⟨⟨(by first | rfl | trivial), (show 271 < nc by omega), (vp_in_iff.mpr (by decide))⟩, ⟨fun c1 => ⟨⟨(by first | rfl | trivial), (show 270 < nc by omega)⟩, ⟨⟨(by first | rfl | trivial), (show 271 < nc by omega), (vp_in_iff.mpr (by decide))⟩, ⟨⟨(by first | rfl | trivial), (show 270 < nc by omega)⟩, ⟨⟨(by first | rfl | trivial), (show 271 < nc by omega), (vp_in_iff.mpr (by decide))⟩, ⟨((q.2 c2).1 c1).1, ((q.2 c2).1 c1).2⟩⟩⟩⟩⟩, (q.2 c2).2⟩⟩⟩⟩⟩⟩
set_option maxRecDepth 100000 in
theorem go_X9_enters_45 {nc : Nat} {C : tf_C} {Q : tf_Q} {h : LH} (hn : 297 ≤ nc) {x1 : Int32} {x2 : Int32} {x3 : Value} {x4 : Value} (q : lx_X9_enters nc C Q 46 [.ref (270), .int (x1), .int (x2), x3, x4] [.int (x2)] h) : lx_X9_enters nc C Q 45 [.ref (270), .int (x1), .int (x2), x3, x4] [] h := by
  refine tf_LW_go ?_
  exact q
set_option maxRecDepth 100000 in
theorem go_X9_enters_46 {nc : Nat} {C : tf_C} {Q : tf_Q} {h : LH} (hn : 297 ≤ nc) {x1 : Int32} {x2 : Int32} {x3 : Value} {x4 : Value} {y0 : Int32} (q : C 32 [.ref (270), .int (y0)] h (fun r g => lx_X9_enters nc C Q 52 [.ref (270), .int (x1), .int (x2), .int (y0), x4] (r :: []) g)) : lx_X9_enters nc C Q 46 [.ref (270), .int (x1), .int (x2), x3, x4] [.int (y0)] h := by
  refine tf_LW_go ?_
  exact ⟨Nat.le_of_ble_eq_true rfl, Nat.le_of_ble_eq_true rfl, q⟩
set_option maxRecDepth 100000 in
theorem go_X9_enters_52 {nc : Nat} {C : tf_C} {Q : tf_Q} {h : LH} (hn : 297 ≤ nc) {x1 : Int32} {x2 : Int32} {x3 : Int32} {x4 : Value} {y0 : Int32} (q : (y0 = (0 : Int32) → lx_X9_enters nc C Q 104 [.ref (270), .int (x1), .int (x2), .int (x3), x4] [] h) ∧ (¬ y0 = (0 : Int32) → lx_X9_enters nc C Q 58 [.ref (270), .int (x1), .int (x2), .int (x3), x4] [] h)) : lx_X9_enters nc C Q 52 [.ref (270), .int (x1), .int (x2), .int (x3), x4] [.int (y0)] h := by
  refine tf_LW_go ?_
  exact ⟨fun c1 => (q.1 c1), q.2⟩
set_option maxRecDepth 100000 in
theorem go_X9_enters_58 {nc : Nat} {C : tf_C} {Q : tf_Q} {h : LH} (hn : 297 ≤ nc) {x1 : Int32} {x2 : Int32} {x3 : Int32} {x4 : Value} (q : (x1 = ((-1) : Int32) → lx_X9_enters nc C Q 86 [.ref (270), .int (x1), .int (x2), .int (x3), x4] [] h) ∧ (¬ x1 = ((-1) : Int32) → ((h.1 271 (2 : Int32).toNatClampNeg) = (1 : Int32) → C 35 [.ref (270), .int (x3)] h (fun r g => lx_X9_enters nc C Q 78 [.ref (270), .int (x1), .int (x2), .int (x3), x4] (r :: []) g)) ∧ (¬ (h.1 271 (2 : Int32).toNatClampNeg) = (1 : Int32) → lx_X9_enters nc C Q 90 [.ref (270), .int (x1), .int (x2), .int (x3), x4] [] h))) : lx_X9_enters nc C Q 58 [.ref (270), .int (x1), .int (x2), .int (x3), x4] [] h := by
  refine tf_LW_go ?_
  exact ⟨q.1, fun c2 => ⟨⟨(by first | rfl | trivial), (show 270 < nc by omega)⟩, ⟨⟨(by first | rfl | trivial), (show 271 < nc by omega), (vp_in_iff.mpr (by decide))⟩, ⟨fun c1 => ⟨Nat.le_of_ble_eq_true rfl, Nat.le_of_ble_eq_true rfl, ((q.2 c2).1 c1)⟩, (q.2 c2).2⟩⟩⟩⟩
set_option maxRecDepth 100000 in
theorem go_X9_enters_78 {nc : Nat} {C : tf_C} {Q : tf_Q} {h : LH} (hn : 297 ≤ nc) {x1 : Int32} {x2 : Int32} {x3 : Int32} {x4 : Value} {y0 : Int32} (q : C 35 [.ref (270), .int (x1)] h (fun r g => lx_X9_enters nc C Q 83 [.ref (270), .int (x1), .int (x2), .int (x3), x4] (r :: [.int (y0)]) g)) : lx_X9_enters nc C Q 78 [.ref (270), .int (x1), .int (x2), .int (x3), x4] [.int (y0)] h := by
  refine tf_LW_go ?_
  exact ⟨Nat.le_of_ble_eq_true rfl, Nat.le_of_ble_eq_true rfl, q⟩
set_option maxRecDepth 100000 in
theorem go_X9_enters_83 {nc : Nat} {C : tf_C} {Q : tf_Q} {h : LH} (hn : 297 ≤ nc) {x1 : Int32} {x2 : Int32} {x3 : Int32} {x4 : Value} {y0 : Int32} {y1 : Int32} (q : (y0 ≤ y1 → lx_X9_enters nc C Q 90 [.ref (270), .int (x1), .int (x2), .int (x3), x4] [] h) ∧ (¬ y0 ≤ y1 → lx_X9_enters nc C Q 86 [.ref (270), .int (x1), .int (x2), .int (x3), x4] [] h)) : lx_X9_enters nc C Q 83 [.ref (270), .int (x1), .int (x2), .int (x3), x4] [.int (y1), .int (y0)] h := by
  refine tf_LW_go ?_
  exact ⟨q.1, fun c1 => (q.2 c1)⟩
set_option maxRecDepth 100000 in
theorem go_X9_enters_86 {nc : Nat} {C : tf_C} {Q : tf_Q} {h : LH} (hn : 297 ≤ nc) {x1 : Int32} {x2 : Int32} {x3 : Int32} {x4 : Value} (q : lx_X9_enters nc C Q 91 [.ref (270), .int (x1), .int (x2), .int (x3), x4] [.int (1)] h) : lx_X9_enters nc C Q 86 [.ref (270), .int (x1), .int (x2), .int (x3), x4] [] h := by
  refine tf_LW_go ?_
  exact q
set_option maxRecDepth 100000 in
theorem go_X9_enters_90 {nc : Nat} {C : tf_C} {Q : tf_Q} {h : LH} (hn : 297 ≤ nc) {x1 : Int32} {x2 : Int32} {x3 : Int32} {x4 : Value} (q : lx_X9_enters nc C Q 91 [.ref (270), .int (x1), .int (x2), .int (x3), x4] [.int (0)] h) : lx_X9_enters nc C Q 90 [.ref (270), .int (x1), .int (x2), .int (x3), x4] [] h := by
  refine tf_LW_go ?_
  exact q
set_option maxRecDepth 100000 in
theorem go_X9_enters_91 {nc : Nat} {C : tf_C} {Q : tf_Q} {h : LH} (hn : 297 ≤ nc) {x1 : Int32} {x2 : Int32} {x3 : Int32} {x4 : Value} {y0 : Int32} (q : (y0 = (0 : Int32) → lx_X9_enters nc C Q 102 [.ref (270), .int (x1), .int (x2), .int (x3), .int (y0)] [] h) ∧ (¬ y0 = (0 : Int32) → lx_X9_enters nc C Q 103 [.ref (270), .int (x1), .int (x2), .int (x3), .int (y0)] [.int (x3)] h)) : lx_X9_enters nc C Q 91 [.ref (270), .int (x1), .int (x2), .int (x3), x4] [.int (y0)] h := by
  refine tf_LW_go ?_
  exact ⟨q.1, fun c1 => (q.2 c1)⟩
set_option maxRecDepth 100000 in
theorem go_X9_enters_102 {nc : Nat} {C : tf_C} {Q : tf_Q} {h : LH} (hn : 297 ≤ nc) {x1 : Int32} {x2 : Int32} {x3 : Int32} {x4 : Int32} (q : lx_X9_enters nc C Q 103 [.ref (270), .int (x1), .int (x2), .int (x3), .int (x4)] [.int (x1)] h) : lx_X9_enters nc C Q 102 [.ref (270), .int (x1), .int (x2), .int (x3), .int (x4)] [] h := by
  refine tf_LW_go ?_
  exact q
set_option maxRecDepth 100000 in
theorem go_X9_enters_103 {nc : Nat} {C : tf_C} {Q : tf_Q} {h : LH} (hn : 297 ≤ nc) {x1 : Int32} {x2 : Int32} {x3 : Int32} {x4 : Int32} {y0 : Int32} (q : lx_X9_enters nc C Q 104 [.ref (270), .int (y0), .int (x2), .int (x3), .int (x4)] [] h) : lx_X9_enters nc C Q 103 [.ref (270), .int (x1), .int (x2), .int (x3), .int (x4)] [.int (y0)] h := by
  refine tf_LW_go ?_
  exact q
set_option maxRecDepth 100000 in
theorem go_X9_enters_104 {nc : Nat} {C : tf_C} {Q : tf_Q} {h : LH} (hn : 297 ≤ nc) {x1 : Int32} {x2 : Int32} {x3 : Int32} {x4 : Value} (q : lx_X9_enters nc C Q 4 [.ref (270), .int (x1), .int (x2 + 1), .int (x3), x4] [] h) : lx_X9_enters nc C Q 104 [.ref (270), .int (x1), .int (x2), .int (x3), x4] [] h := by
  refine tf_LW_go ?_
  exact q
set_option maxRecDepth 100000 in
theorem go_X9_enters_110 {nc : Nat} {C : tf_C} {Q : tf_Q} {h : LH} (hn : 297 ≤ nc) {x1 : Int32} {x2 : Int32} {x3 : Value} {x4 : Value} (q : Q (.int (x1)) h) : lx_X9_enters nc C Q 110 [.ref (270), .int (x1), .int (x2), x3, x4] [] h := by
  refine tf_LW_go ?_
  exact ⟨(by first | trivial | rfl), q⟩
abbrev lx_X9_isAlong (nc : Nat) (C : tf_C) (Q : tf_Q) : tf_X := tf_LW nc C (tf_F 7) (tf_M 7) (tf_I 7) (tf_Eh 37) 2 tb_X9_isAlong Q
set_option maxRecDepth 100000 in
theorem go_X9_isAlong_0 {nc : Nat} {C : tf_C} {Q : tf_Q} {h : LH} (hn : 297 ≤ nc) {x1 : Int32} {x2 : Int32} (q : C 27 [.int (x1)] h (fun r g => lx_X9_isAlong nc C Q 4 [.ref (270), .int (x1), .int (x2)] (r :: []) g)) : lx_X9_isAlong nc C Q 0 [.ref (270), .int (x1), .int (x2)] [] h := by
  refine tf_LW_go ?_
  exact ⟨Nat.le_of_ble_eq_true rfl, Nat.le_of_ble_eq_true rfl, q⟩
theorem en_X9_isAlong {nc d : Nat} {Q : tf_Q} {h : LH} (hn : 297 ≤ nc) {x1 : Int32} {x2 : Int32} (q : lx_X9_isAlong nc (tf_Cd nc d) Q 0 [.ref (270), .int (x1), .int (x2)] [] h) : tf_Cd nc (d + 1) 37 [.ref (270), .int (x1), .int (x2)] h Q := by
  exact ⟨⟨Nat.le_of_ble_eq_true rfl, Or.inr ⟨rfl, (show 270 < nc by omega)⟩⟩, q⟩
set_option maxRecDepth 100000 in
theorem go_X9_isAlong_4 {nc : Nat} {C : tf_C} {Q : tf_Q} {h : LH} (hn : 297 ≤ nc) {x1 : Int32} {x2 : Int32} {y0 : Int32} (q : (y0 = (0 : Int32) → lx_X9_isAlong nc C Q 52 [.ref (270), .int (x1), .int (x2)] [] h) ∧ (¬ y0 = (0 : Int32) → (vp_in ((58 + x1) - 100) 865) ∧ ((h.1 271 ((58 + x1) - 100 : Int32).toNatClampNeg) = (1 : Int32) → lx_X9_isAlong nc C Q 28 [.ref (270), .int (x1), .int (x2)] [.int (1)] h) ∧ (¬ (h.1 271 ((58 + x1) - 100 : Int32).toNatClampNeg) = (1 : Int32) → lx_X9_isAlong nc C Q 27 [.ref (270), .int (x1), .int (x2)] [] h))) : lx_X9_isAlong nc C Q 4 [.ref (270), .int (x1), .int (x2)] [.int (y0)] h := by
  refine tf_LW_go ?_
  exact ⟨q.1, fun c2 => ⟨⟨(by first | rfl | trivial), (show 270 < nc by omega)⟩, ⟨⟨(by first | rfl | trivial), (show 271 < nc by omega), (q.2 c2).1⟩, ⟨fun c1 => ((q.2 c2).2.1 c1), (q.2 c2).2.2⟩⟩⟩⟩
set_option maxRecDepth 100000 in
theorem go_X9_isAlong_27 {nc : Nat} {C : tf_C} {Q : tf_Q} {h : LH} (hn : 297 ≤ nc) {x1 : Int32} {x2 : Int32} (q : lx_X9_isAlong nc C Q 28 [.ref (270), .int (x1), .int (x2)] [.int (0)] h) : lx_X9_isAlong nc C Q 27 [.ref (270), .int (x1), .int (x2)] [] h := by
  refine tf_LW_go ?_
  exact q
set_option maxRecDepth 100000 in
theorem go_X9_isAlong_28 {nc : Nat} {C : tf_C} {Q : tf_Q} {h : LH} (hn : 297 ≤ nc) {x1 : Int32} {x2 : Int32} {y0 : Int32} (q : C 26 [.ref (270)] h (fun r g => lx_X9_isAlong nc C Q 33 [.ref (270), .int (x1), .int (x2)] (r :: [.int (x2), .int (y0)]) g)) : lx_X9_isAlong nc C Q 28 [.ref (270), .int (x1), .int (x2)] [.int (y0)] h := by
  refine tf_LW_go ?_
  exact ⟨Nat.le_of_ble_eq_true rfl, Nat.le_of_ble_eq_true rfl, q⟩
set_option maxRecDepth 100000 in
theorem go_X9_isAlong_33 {nc : Nat} {C : tf_C} {Q : tf_Q} {h : LH} (hn : 297 ≤ nc) {x1 : Int32} {x2 : Int32} {y0 : Int32} {y1 : Int32} {y2 : Int32} (q : (y1 = y2 → lx_X9_isAlong nc C Q 40 [.ref (270), .int (x1), .int (x2)] [.int (y0)] h) ∧ (¬ y1 = y2 → lx_X9_isAlong nc C Q 41 [.ref (270), .int (x1), .int (x2)] [.int (1), .int (y0)] h)) : lx_X9_isAlong nc C Q 33 [.ref (270), .int (x1), .int (x2)] [.int (y2), .int (y1), .int (y0)] h := by
  refine tf_LW_go ?_
  exact ⟨q.1, fun c1 => (q.2 c1)⟩
set_option maxRecDepth 100000 in
theorem go_X9_isAlong_40 {nc : Nat} {C : tf_C} {Q : tf_Q} {h : LH} (hn : 297 ≤ nc) {x1 : Int32} {x2 : Int32} {y0 : Int32} (q : lx_X9_isAlong nc C Q 41 [.ref (270), .int (x1), .int (x2)] [.int (0), .int (y0)] h) : lx_X9_isAlong nc C Q 40 [.ref (270), .int (x1), .int (x2)] [.int (y0)] h := by
  refine tf_LW_go ?_
  exact q
set_option maxRecDepth 100000 in
theorem go_X9_isAlong_41 {nc : Nat} {C : tf_C} {Q : tf_Q} {h : LH} (hn : 297 ≤ nc) {x1 : Int32} {x2 : Int32} {y0 : Int32} {y1 : Int32} (q : (y0 = y1 → lx_X9_isAlong nc C Q 67 [.ref (270), .int (x1), .int (x2)] [.int (1)] h) ∧ (¬ y0 = y1 → lx_X9_isAlong nc C Q 48 [.ref (270), .int (x1), .int (x2)] [] h)) : lx_X9_isAlong nc C Q 41 [.ref (270), .int (x1), .int (x2)] [.int (y1), .int (y0)] h := by
  refine tf_LW_go ?_
  exact ⟨fun c1 => (q.1 c1), q.2⟩
set_option maxRecDepth 100000 in
theorem go_X9_isAlong_48 {nc : Nat} {C : tf_C} {Q : tf_Q} {h : LH} (hn : 297 ≤ nc) {x1 : Int32} {x2 : Int32} (q : lx_X9_isAlong nc C Q 67 [.ref (270), .int (x1), .int (x2)] [.int (0)] h) : lx_X9_isAlong nc C Q 48 [.ref (270), .int (x1), .int (x2)] [] h := by
  refine tf_LW_go ?_
  exact q
set_option maxRecDepth 100000 in
theorem go_X9_isAlong_52 {nc : Nat} {C : tf_C} {Q : tf_Q} {h : LH} (hn : 297 ≤ nc) {x1 : Int32} {x2 : Int32} (q : C 3 [.ref (270), .int (x1), .int (0)] h (fun r g => lx_X9_isAlong nc C Q 58 [.ref (270), .int (x1), .int (x2)] (r :: []) g)) : lx_X9_isAlong nc C Q 52 [.ref (270), .int (x1), .int (x2)] [] h := by
  refine tf_LW_go ?_
  exact ⟨Nat.le_of_ble_eq_true rfl, Nat.le_of_ble_eq_true rfl, q⟩
set_option maxRecDepth 100000 in
theorem go_X9_isAlong_58 {nc : Nat} {C : tf_C} {Q : tf_Q} {h : LH} (hn : 297 ≤ nc) {x1 : Int32} {x2 : Int32} {y0 : Int32} (q : (y0 = x2 → lx_X9_isAlong nc C Q 67 [.ref (270), .int (x1), .int (x2)] [.int (1)] h) ∧ (¬ y0 = x2 → lx_X9_isAlong nc C Q 66 [.ref (270), .int (x1), .int (x2)] [] h)) : lx_X9_isAlong nc C Q 58 [.ref (270), .int (x1), .int (x2)] [.int (y0)] h := by
  refine tf_LW_go ?_
  exact ⟨fun c1 => (q.1 c1), q.2⟩
set_option maxRecDepth 100000 in
theorem go_X9_isAlong_66 {nc : Nat} {C : tf_C} {Q : tf_Q} {h : LH} (hn : 297 ≤ nc) {x1 : Int32} {x2 : Int32} (q : lx_X9_isAlong nc C Q 67 [.ref (270), .int (x1), .int (x2)] [.int (0)] h) : lx_X9_isAlong nc C Q 66 [.ref (270), .int (x1), .int (x2)] [] h := by
  refine tf_LW_go ?_
  exact q
set_option maxRecDepth 100000 in
theorem go_X9_isAlong_67 {nc : Nat} {C : tf_C} {Q : tf_Q} {h : LH} (hn : 297 ≤ nc) {x1 : Int32} {x2 : Int32} {y0 : Int32} (q : (vp_nar .boolean (y0) = (y0)) ∧ Q (.int (y0)) h) : lx_X9_isAlong nc C Q 67 [.ref (270), .int (x1), .int (x2)] [.int (y0)] h := by
  refine tf_LW_go ?_
  exact q
abbrev lx_X9_addsStep (nc : Nat) (C : tf_C) (Q : tf_Q) : tf_X := tf_LW nc C (tf_F 7) (tf_M 7) (tf_I 7) (tf_Eh 38) 0 tb_X9_addsStep Q
set_option maxRecDepth 100000 in
theorem go_X9_addsStep_0 {nc : Nat} {C : tf_C} {Q : tf_Q} {h : LH} (hn : 297 ≤ nc) {x1 : Int32} {x2 : Int32} (q : (vp_in (h.1 270 30) 16) ∧ C 37 [.ref (270), .int (x1), .int (x2)] (tf_up h.1 285 (h.1 270 30 : Int32).toNatClampNeg x1, h.2) (fun r g => lx_X9_addsStep nc C Q 24 [.ref (270), .int (x1), .int (x2)] (r :: [.int ((tf_up h.1 285 (h.1 270 30 : Int32).toNatClampNeg x1) 270 30), .ref (286)]) g)) : lx_X9_addsStep nc C Q 0 [.ref (270), .int (x1), .int (x2)] [] h := by
  refine tf_LW_go ?_
  exact ⟨⟨(by first | rfl | trivial), (show 270 < nc by omega)⟩, ⟨⟨(by first | rfl | trivial), (show 270 < nc by omega)⟩, ⟨⟨(by first | rfl | trivial), (show 285 < nc by omega), q.1⟩, ⟨⟨(by first | rfl | trivial), (show 270 < nc by omega)⟩, ⟨⟨(by first | rfl | trivial), (show 270 < nc by omega)⟩, ⟨Nat.le_of_ble_eq_true rfl, Nat.le_of_ble_eq_true rfl, q.2⟩⟩⟩⟩⟩⟩
theorem en_X9_addsStep {nc d : Nat} {Q : tf_Q} {h : LH} (hn : 297 ≤ nc) {x1 : Int32} {x2 : Int32} (q : lx_X9_addsStep nc (tf_Cd nc d) Q 0 [.ref (270), .int (x1), .int (x2)] [] h) : tf_Cd nc (d + 1) 38 [.ref (270), .int (x1), .int (x2)] h Q := by
  exact ⟨⟨Nat.le_of_ble_eq_true rfl, Or.inr ⟨rfl, (show 270 < nc by omega)⟩⟩, q⟩
set_option maxRecDepth 100000 in
theorem go_X9_addsStep_24 {nc : Nat} {C : tf_C} {Q : tf_Q} {h : LH} (hn : 297 ≤ nc) {x1 : Int32} {x2 : Int32} {y0 ny0 : Nat} {y1 : Int32} {y2 : Int32} (Ky0_0 : tf_K y0 = 11) (Ny0_0 : tf_N y0 = ny0) (By0 : y0 < nc) (q : (vp_in y1 ny0) ∧ Q tf_z (tf_up (tf_up h.1 y0 (y1 : Int32).toNatClampNeg (vp_nar .boolean y2)) 270 30 (((tf_up h.1 y0 (y1 : Int32).toNatClampNeg (vp_nar .boolean y2)) 270 30) + 1), h.2)) : lx_X9_addsStep nc C Q 24 [.ref (270), .int (x1), .int (x2)] [.int (y2), .int (y1), .ref (y0)] h := by
  refine tf_LW_go ?_
  show (y0 < nc ∧ vp_in y1 (tf_N y0)) ∧ ((tf_K y0 = 10 ∧ (tf_K 270 = 7 ∧ 270 < nc) ∧ (tf_K 270 = 7 ∧ 270 < nc ∧ tf_S 7 30 = 0) ∧ 0 = 0 ∧ Q tf_z (tf_up (tf_up h.1 y0 (y1 : Int32).toNatClampNeg (vp_nar .byte y2)) 270 30 (((tf_up h.1 y0 (y1 : Int32).toNatClampNeg (vp_nar .byte y2)) 270 30) + 1), h.2)) ∨ (tf_K y0 = 11 ∧ (tf_K 270 = 7 ∧ 270 < nc) ∧ (tf_K 270 = 7 ∧ 270 < nc ∧ tf_S 7 30 = 0) ∧ 0 = 0 ∧ Q tf_z (tf_up (tf_up h.1 y0 (y1 : Int32).toNatClampNeg (vp_nar .boolean y2)) 270 30 (((tf_up h.1 y0 (y1 : Int32).toNatClampNeg (vp_nar .boolean y2)) 270 30) + 1), h.2)))
  try simp only [Ny0_0]
  exact ⟨⟨(show y0 < nc by omega), q.1⟩, Or.inr ⟨Ky0_0, ⟨⟨(by first | rfl | trivial), (show 270 < nc by omega)⟩, ⟨⟨(by first | rfl | trivial), (show 270 < nc by omega), (by first | rfl | trivial)⟩, ⟨(by first | rfl | trivial), q.2⟩⟩⟩⟩⟩
abbrev lx_X9_meets (nc : Nat) (C : tf_C) (Q : tf_Q) : tf_X := tf_LW nc C (tf_F 7) (tf_M 7) (tf_I 7) (tf_Eh 39) 1 tb_X9_meets Q
set_option maxRecDepth 100000 in
theorem go_X9_meets_0 {nc : Nat} {C : tf_C} {Q : tf_Q} {h : LH} (hn : 297 ≤ nc) {x1 : Int32} {x2 : Int32} (q : lx_X9_meets nc C Q 5 [.ref (270), .int (x1), .int (x2), .int (x1), .int (x2)] [] h) : lx_X9_meets nc C Q 0 [.ref (270), .int (x1), .int (x2), tf_z, tf_z] [] h := by
  refine tf_LW_go ?_
  exact q
theorem en_X9_meets {nc d : Nat} {Q : tf_Q} {h : LH} (hn : 297 ≤ nc) {x1 : Int32} {x2 : Int32} (q : lx_X9_meets nc (tf_Cd nc d) Q 0 [.ref (270), .int (x1), .int (x2), tf_z, tf_z] [] h) : tf_Cd nc (d + 1) 39 [.ref (270), .int (x1), .int (x2)] h Q := by
  exact ⟨⟨Nat.le_of_ble_eq_true rfl, Or.inr ⟨rfl, (show 270 < nc by omega)⟩⟩, q⟩
set_option maxRecDepth 100000 in
theorem go_X9_meets_5 {nc : Nat} {C : tf_C} {Q : tf_Q} {h : LH} (hn : 297 ≤ nc) {x1 : Int32} {x2 : Int32} {x3 : Int32} {x4 : Int32} (q : (x3 = x4 → lx_X9_meets nc C Q 49 [.ref (270), .int (x1), .int (x2), .int (x3), .int (x4)] [] h) ∧ (¬ x3 = x4 → (vp_in x3 8) ∧ (vp_in x4 8) ∧ ((h.1 283 (x3 : Int32).toNatClampNeg) < (h.1 283 (x4 : Int32).toNatClampNeg) → lx_X9_meets nc C Q 37 [.ref (270), .int (x1), .int (x2), .int (x3), .int (x4)] [] h) ∧ (¬ (h.1 283 (x3 : Int32).toNatClampNeg) < (h.1 283 (x4 : Int32).toNatClampNeg) → (vp_in x3 8) ∧ lx_X9_meets nc C Q 5 [.ref (270), .int (x1), .int (x2), .int (h.1 281 (x3 : Int32).toNatClampNeg), .int (x4)] [] h))) : lx_X9_meets nc C Q 5 [.ref (270), .int (x1), .int (x2), .int (x3), .int (x4)] [] h := by
  refine tf_LW_go ?_
  exact ⟨q.1, fun c2 => ⟨⟨(by first | rfl | trivial), (show 270 < nc by omega)⟩, ⟨⟨(by first | rfl | trivial), (show 283 < nc by omega), (q.2 c2).1⟩, ⟨⟨(by first | rfl | trivial), (show 270 < nc by omega)⟩, ⟨⟨(by first | rfl | trivial), (show 283 < nc by omega), (q.2 c2).2.1⟩, ⟨(q.2 c2).2.2.1, fun c1 => ⟨⟨(by first | rfl | trivial), (show 270 < nc by omega)⟩, ⟨⟨(by first | rfl | trivial), (show 281 < nc by omega), ((q.2 c2).2.2.2 c1).1⟩, ((q.2 c2).2.2.2 c1).2⟩⟩⟩⟩⟩⟩⟩⟩
set_option maxRecDepth 100000 in
theorem go_X9_meets_37 {nc : Nat} {C : tf_C} {Q : tf_Q} {h : LH} (hn : 297 ≤ nc) {x1 : Int32} {x2 : Int32} {x3 : Int32} {x4 : Int32} (q : (vp_in x4 8) ∧ lx_X9_meets nc C Q 5 [.ref (270), .int (x1), .int (x2), .int (x3), .int (h.1 281 (x4 : Int32).toNatClampNeg)] [] h) : lx_X9_meets nc C Q 37 [.ref (270), .int (x1), .int (x2), .int (x3), .int (x4)] [] h := by
  refine tf_LW_go ?_
  exact ⟨⟨(by first | rfl | trivial), (show 270 < nc by omega)⟩, ⟨⟨(by first | rfl | trivial), (show 281 < nc by omega), q.1⟩, q.2⟩⟩
set_option maxRecDepth 100000 in
theorem go_X9_meets_49 {nc : Nat} {C : tf_C} {Q : tf_Q} {h : LH} (hn : 297 ≤ nc) {x1 : Int32} {x2 : Int32} {x3 : Int32} {x4 : Int32} (q : Q (.int (x3)) h) : lx_X9_meets nc C Q 49 [.ref (270), .int (x1), .int (x2), .int (x3), .int (x4)] [] h := by
  refine tf_LW_go ?_
  exact ⟨(by first | trivial | rfl), q⟩
abbrev lx_X9_goesDown (nc : Nat) (C : tf_C) (Q : tf_Q) : tf_X := tf_LW nc C (tf_F 7) (tf_M 7) (tf_I 7) (tf_Eh 40) 0 tb_X9_goesDown Q
set_option maxRecDepth 100000 in
theorem go_X9_goesDown_0 {nc : Nat} {C : tf_C} {Q : tf_Q} {h : LH} (hn : 297 ≤ nc) {x1 : Int32} {x2 : Int32} (q : (vp_in x2 8) ∧ (vp_in x1 8) ∧ lx_X9_goesDown nc C Q 17 [.ref (270), .int (x1), .int (x2), .int ((h.1 283 (x2 : Int32).toNatClampNeg) - (h.1 283 (x1 : Int32).toNatClampNeg)), .int ((h.1 283 (x2 : Int32).toNatClampNeg) - (h.1 283 (x1 : Int32).toNatClampNeg)), tf_z, tf_z] [] h) : lx_X9_goesDown nc C Q 0 [.ref (270), .int (x1), .int (x2), tf_z, tf_z, tf_z, tf_z] [] h := by
  refine tf_LW_go ?_
  exact ⟨⟨(by first | rfl | trivial), (show 270 < nc by omega)⟩, ⟨⟨(by first | rfl | trivial), (show 283 < nc by omega), q.1⟩, ⟨⟨(by first | rfl | trivial), (show 270 < nc by omega)⟩, ⟨⟨(by first | rfl | trivial), (show 283 < nc by omega), q.2.1⟩, q.2.2⟩⟩⟩⟩
theorem en_X9_goesDown {nc d : Nat} {Q : tf_Q} {h : LH} (hn : 297 ≤ nc) {x1 : Int32} {x2 : Int32} (q : lx_X9_goesDown nc (tf_Cd nc d) Q 0 [.ref (270), .int (x1), .int (x2), tf_z, tf_z, tf_z, tf_z] [] h) : tf_Cd nc (d + 1) 40 [.ref (270), .int (x1), .int (x2)] h Q := by
  exact ⟨⟨Nat.le_of_ble_eq_true rfl, Or.inr ⟨rfl, (show 270 < nc by omega)⟩⟩, q⟩
set_option maxRecDepth 100000 in
theorem go_X9_goesDown_17 {nc : Nat} {C : tf_C} {Q : tf_Q} {h : LH} (hn : 297 ≤ nc) {x1 : Int32} {x2 : Int32} {x3 : Int32} {x4 : Int32} {x5 : Value} {x6 : Value} (q : (x4 ≤ (0 : Int32) → lx_X9_goesDown nc C Q 74 [.ref (270), .int (x1), .int (x2), .int (x3), .int (x4), x5, x6] [] h) ∧ (¬ x4 ≤ (0 : Int32) → lx_X9_goesDown nc C Q 28 [.ref (270), .int (x1), .int (x2), .int (x3), .int (x4), .int (x2), .int (1)] [] h)) : lx_X9_goesDown nc C Q 17 [.ref (270), .int (x1), .int (x2), .int (x3), .int (x4), x5, x6] [] h := by
  refine tf_LW_go ?_
  exact ⟨q.1, fun c1 => (q.2 c1)⟩
set_option maxRecDepth 100000 in
theorem go_X9_goesDown_28 {nc : Nat} {C : tf_C} {Q : tf_Q} {h : LH} (hn : 297 ≤ nc) {x1 : Int32} {x2 : Int32} {x3 : Int32} {x4 : Int32} {x5 : Int32} {x6 : Int32} (q : (x4 ≤ x6 → lx_X9_goesDown nc C Q 50 [.ref (270), .int (x1), .int (x2), .int (x3), .int (x4), .int (x5), .int (x6)] [] h) ∧ (¬ x4 ≤ x6 → (vp_in x5 8) ∧ lx_X9_goesDown nc C Q 28 [.ref (270), .int (x1), .int (x2), .int (x3), .int (x4), .int (h.1 281 (x5 : Int32).toNatClampNeg), .int (x6 + 1)] [] h)) : lx_X9_goesDown nc C Q 28 [.ref (270), .int (x1), .int (x2), .int (x3), .int (x4), .int (x5), .int (x6)] [] h := by
  refine tf_LW_go ?_
  exact ⟨q.1, fun c1 => ⟨⟨(by first | rfl | trivial), (show 270 < nc by omega)⟩, ⟨⟨(by first | rfl | trivial), (show 281 < nc by omega), (q.2 c1).1⟩, (q.2 c1).2⟩⟩⟩
set_option maxRecDepth 100000 in
theorem go_X9_goesDown_50 {nc : Nat} {C : tf_C} {Q : tf_Q} {h : LH} (hn : 297 ≤ nc) {x1 : Int32} {x2 : Int32} {x3 : Int32} {x4 : Int32} {x5 : Int32} {x6 : Int32} (q : (vp_in x5 8) ∧ (vp_in x5 8) ∧ C 38 [.ref (270), .int (h.1 282 (x5 : Int32).toNatClampNeg), .int (h.1 281 (x5 : Int32).toNatClampNeg)] h (fun r g => lx_X9_goesDown nc C Q 68 [.ref (270), .int (x1), .int (x2), .int (x3), .int (x4), .int (x5), .int (x6)] [] g)) : lx_X9_goesDown nc C Q 50 [.ref (270), .int (x1), .int (x2), .int (x3), .int (x4), .int (x5), .int (x6)] [] h := by
  refine tf_LW_go ?_
  exact ⟨⟨(by first | rfl | trivial), (show 270 < nc by omega)⟩, ⟨⟨(by first | rfl | trivial), (show 282 < nc by omega), q.1⟩, ⟨⟨(by first | rfl | trivial), (show 270 < nc by omega)⟩, ⟨⟨(by first | rfl | trivial), (show 281 < nc by omega), q.2.1⟩, ⟨Nat.le_of_ble_eq_true rfl, Nat.le_of_ble_eq_true rfl, q.2.2⟩⟩⟩⟩⟩
set_option maxRecDepth 100000 in
theorem go_X9_goesDown_68 {nc : Nat} {C : tf_C} {Q : tf_Q} {h : LH} (hn : 297 ≤ nc) {x1 : Int32} {x2 : Int32} {x3 : Int32} {x4 : Int32} {x5 : Int32} {x6 : Int32} (q : lx_X9_goesDown nc C Q 17 [.ref (270), .int (x1), .int (x2), .int (x3), .int (x4 + (-1)), .int (x5), .int (x6)] [] h) : lx_X9_goesDown nc C Q 68 [.ref (270), .int (x1), .int (x2), .int (x3), .int (x4), .int (x5), .int (x6)] [] h := by
  refine tf_LW_go ?_
  exact q
set_option maxRecDepth 100000 in
theorem go_X9_goesDown_74 {nc : Nat} {C : tf_C} {Q : tf_Q} {h : LH} (hn : 297 ≤ nc) {x1 : Int32} {x2 : Int32} {x3 : Int32} {x4 : Int32} {x5 : Value} {x6 : Value} (q : Q tf_z h) : lx_X9_goesDown nc C Q 74 [.ref (270), .int (x1), .int (x2), .int (x3), .int (x4), x5, x6] [] h := by
  refine tf_LW_go ?_
  exact ⟨(by first | rfl | trivial), q⟩
abbrev lx_X9_goesUp (nc : Nat) (C : tf_C) (Q : tf_Q) : tf_X := tf_LW nc C (tf_F 7) (tf_M 7) (tf_I 7) (tf_Eh 41) 0 tb_X9_goesUp Q
set_option maxRecDepth 100000 in
theorem go_X9_goesUp_0 {nc : Nat} {C : tf_C} {Q : tf_Q} {h : LH} (hn : 297 ≤ nc) {x1 : Int32} {x2 : Int32} (q : lx_X9_goesUp nc C Q 2 [.ref (270), .int (x1), .int (x2), .int (x1)] [] h) : lx_X9_goesUp nc C Q 0 [.ref (270), .int (x1), .int (x2), tf_z] [] h := by
  refine tf_LW_go ?_
  exact q
theorem en_X9_goesUp {nc d : Nat} {Q : tf_Q} {h : LH} (hn : 297 ≤ nc) {x1 : Int32} {x2 : Int32} (q : lx_X9_goesUp nc (tf_Cd nc d) Q 0 [.ref (270), .int (x1), .int (x2), tf_z] [] h) : tf_Cd nc (d + 1) 41 [.ref (270), .int (x1), .int (x2)] h Q := by
  exact ⟨⟨Nat.le_of_ble_eq_true rfl, Or.inr ⟨rfl, (show 270 < nc by omega)⟩⟩, q⟩
set_option maxRecDepth 100000 in
theorem go_X9_goesUp_2 {nc : Nat} {C : tf_C} {Q : tf_Q} {h : LH} (hn : 297 ≤ nc) {x1 : Int32} {x2 : Int32} {x3 : Int32} (q : (x3 = x2 → lx_X9_goesUp nc C Q 28 [.ref (270), .int (x1), .int (x2), .int (x3)] [] h) ∧ (¬ x3 = x2 → (vp_in x3 8) ∧ C 38 [.ref (270), .int (h.1 282 (x3 : Int32).toNatClampNeg), .int (x3)] h (fun r g => lx_X9_goesUp nc C Q 18 [.ref (270), .int (x1), .int (x2), .int (x3)] [] g))) : lx_X9_goesUp nc C Q 2 [.ref (270), .int (x1), .int (x2), .int (x3)] [] h := by
  refine tf_LW_go ?_
  exact ⟨q.1, fun c1 => ⟨⟨(by first | rfl | trivial), (show 270 < nc by omega)⟩, ⟨⟨(by first | rfl | trivial), (show 282 < nc by omega), (q.2 c1).1⟩, ⟨Nat.le_of_ble_eq_true rfl, Nat.le_of_ble_eq_true rfl, (q.2 c1).2⟩⟩⟩⟩
set_option maxRecDepth 100000 in
theorem go_X9_goesUp_18 {nc : Nat} {C : tf_C} {Q : tf_Q} {h : LH} (hn : 297 ≤ nc) {x1 : Int32} {x2 : Int32} {x3 : Int32} (q : (vp_in x3 8) ∧ lx_X9_goesUp nc C Q 2 [.ref (270), .int (x1), .int (x2), .int (h.1 281 (x3 : Int32).toNatClampNeg)] [] h) : lx_X9_goesUp nc C Q 18 [.ref (270), .int (x1), .int (x2), .int (x3)] [] h := by
  refine tf_LW_go ?_
  exact ⟨⟨(by first | rfl | trivial), (show 270 < nc by omega)⟩, ⟨⟨(by first | rfl | trivial), (show 281 < nc by omega), q.1⟩, q.2⟩⟩
set_option maxRecDepth 100000 in
theorem go_X9_goesUp_28 {nc : Nat} {C : tf_C} {Q : tf_Q} {h : LH} (hn : 297 ≤ nc) {x1 : Int32} {x2 : Int32} {x3 : Int32} (q : Q tf_z h) : lx_X9_goesUp nc C Q 28 [.ref (270), .int (x1), .int (x2), .int (x3)] [] h := by
  refine tf_LW_go ?_
  exact ⟨(by first | rfl | trivial), q⟩
abbrev lx_X9_roomOf (nc : Nat) (C : tf_C) (Q : tf_Q) : tf_X := tf_LW nc C (tf_F 7) (tf_M 7) (tf_I 7) (tf_Eh 42) 1 tb_X9_roomOf Q
set_option maxRecDepth 100000 in
theorem go_X9_roomOf_0 {nc : Nat} {C : tf_C} {Q : tf_Q} {h : LH} (hn : 297 ≤ nc) {x1 : Int32} (q : (vp_in x1 16) ∧ C 27 [.int (h.1 285 (x1 : Int32).toNatClampNeg)] h (fun r g => lx_X9_roomOf nc C Q 11 [.ref (270), .int (x1), .int (h.1 285 (x1 : Int32).toNatClampNeg)] (r :: []) g)) : lx_X9_roomOf nc C Q 0 [.ref (270), .int (x1), tf_z] [] h := by
  refine tf_LW_go ?_
  exact ⟨⟨(by first | rfl | trivial), (show 270 < nc by omega)⟩, ⟨⟨(by first | rfl | trivial), (show 285 < nc by omega), q.1⟩, ⟨Nat.le_of_ble_eq_true rfl, Nat.le_of_ble_eq_true rfl, q.2⟩⟩⟩
theorem en_X9_roomOf {nc d : Nat} {Q : tf_Q} {h : LH} (hn : 297 ≤ nc) {x1 : Int32} (q : lx_X9_roomOf nc (tf_Cd nc d) Q 0 [.ref (270), .int (x1), tf_z] [] h) : tf_Cd nc (d + 1) 42 [.ref (270), .int (x1)] h Q := by
  exact ⟨⟨Nat.le_of_ble_eq_true rfl, Or.inr ⟨rfl, (show 270 < nc by omega)⟩⟩, q⟩
set_option maxRecDepth 100000 in
theorem go_X9_roomOf_11 {nc : Nat} {C : tf_C} {Q : tf_Q} {h : LH} (hn : 297 ≤ nc) {x1 : Int32} {x2 : Int32} {y0 : Int32} (q : (y0 = (0 : Int32) → lx_X9_roomOf nc C Q 42 [.ref (270), .int (x1), .int (x2)] [] h) ∧ (¬ y0 = (0 : Int32) → (vp_in x1 16) ∧ ((h.1 286 (x1 : Int32).toNatClampNeg) = (0 : Int32) → lx_X9_roomOf nc C Q 29 [.ref (270), .int (x1), .int (x2)] [] h) ∧ (¬ (h.1 286 (x1 : Int32).toNatClampNeg) = (0 : Int32) → lx_X9_roomOf nc C Q 41 [.ref (270), .int (x1), .int (x2)] [.int (1000000)] h))) : lx_X9_roomOf nc C Q 11 [.ref (270), .int (x1), .int (x2)] [.int (y0)] h := by
  refine tf_LW_go ?_
  exact ⟨q.1, fun c2 => ⟨⟨(by first | rfl | trivial), (show 270 < nc by omega)⟩, ⟨⟨(Or.inr (by first | rfl | trivial)), (show 286 < nc by omega), (q.2 c2).1⟩, ⟨(q.2 c2).2.1, fun c1 => ((q.2 c2).2.2 c1)⟩⟩⟩⟩
set_option maxRecDepth 100000 in
theorem go_X9_roomOf_29 {nc : Nat} {C : tf_C} {Q : tf_Q} {h : LH} (hn : 297 ≤ nc) {x1 : Int32} {x2 : Int32} (q : (vp_in ((65 + x2) - 100) 865) ∧ lx_X9_roomOf nc C Q 41 [.ref (270), .int (x1), .int (x2)] [.int (h.1 271 ((65 + x2) - 100 : Int32).toNatClampNeg)] h) : lx_X9_roomOf nc C Q 29 [.ref (270), .int (x1), .int (x2)] [] h := by
  refine tf_LW_go ?_
  exact ⟨⟨(by first | rfl | trivial), (show 270 < nc by omega)⟩, ⟨⟨(by first | rfl | trivial), (show 271 < nc by omega), q.1⟩, q.2⟩⟩
set_option maxRecDepth 100000 in
theorem go_X9_roomOf_41 {nc : Nat} {C : tf_C} {Q : tf_Q} {h : LH} (hn : 297 ≤ nc) {x1 : Int32} {x2 : Int32} {y0 : Int32} (q : Q (.int (y0)) h) : lx_X9_roomOf nc C Q 41 [.ref (270), .int (x1), .int (x2)] [.int (y0)] h := by
  refine tf_LW_go ?_
  exact ⟨(by first | trivial | rfl), q⟩
set_option maxRecDepth 100000 in
theorem go_X9_roomOf_42 {nc : Nat} {C : tf_C} {Q : tf_Q} {h : LH} (hn : 297 ≤ nc) {x1 : Int32} {x2 : Int32} (q : (vp_in x1 16) ∧ ((h.1 286 (x1 : Int32).toNatClampNeg) = (0 : Int32) → lx_X9_roomOf nc C Q 67 [.ref (270), .int (x1), .int (x2)] [] h) ∧ (¬ (h.1 286 (x1 : Int32).toNatClampNeg) = (0 : Int32) → C 3 [.ref (270), .int (x2), .int (2)] h (fun r g => lx_X9_roomOf nc C Q 57 [.ref (270), .int (x1), .int (x2)] (r :: []) g))) : lx_X9_roomOf nc C Q 42 [.ref (270), .int (x1), .int (x2)] [] h := by
  refine tf_LW_go ?_
  exact ⟨⟨(by first | rfl | trivial), (show 270 < nc by omega)⟩, ⟨⟨(Or.inr (by first | rfl | trivial)), (show 286 < nc by omega), q.1⟩, ⟨q.2.1, fun c1 => ⟨Nat.le_of_ble_eq_true rfl, Nat.le_of_ble_eq_true rfl, (q.2.2 c1)⟩⟩⟩⟩
set_option maxRecDepth 100000 in
theorem go_X9_roomOf_57 {nc : Nat} {C : tf_C} {Q : tf_Q} {h : LH} (hn : 297 ≤ nc) {x1 : Int32} {x2 : Int32} {y0 : Int32} (q : C 3 [.ref (270), .int (x2), .int (4)] h (fun r g => lx_X9_roomOf nc C Q 63 [.ref (270), .int (x1), .int (x2)] (r :: [.int (y0)]) g)) : lx_X9_roomOf nc C Q 57 [.ref (270), .int (x1), .int (x2)] [.int (y0)] h := by
  refine tf_LW_go ?_
  exact ⟨Nat.le_of_ble_eq_true rfl, Nat.le_of_ble_eq_true rfl, q⟩
set_option maxRecDepth 100000 in
theorem go_X9_roomOf_63 {nc : Nat} {C : tf_C} {Q : tf_Q} {h : LH} (hn : 297 ≤ nc) {x1 : Int32} {x2 : Int32} {y0 : Int32} {y1 : Int32} (q : lx_X9_roomOf nc C Q 73 [.ref (270), .int (x1), .int (x2)] [.int (y0 - y1)] h) : lx_X9_roomOf nc C Q 63 [.ref (270), .int (x1), .int (x2)] [.int (y1), .int (y0)] h := by
  refine tf_LW_go ?_
  exact q
set_option maxRecDepth 100000 in
theorem go_X9_roomOf_67 {nc : Nat} {C : tf_C} {Q : tf_Q} {h : LH} (hn : 297 ≤ nc) {x1 : Int32} {x2 : Int32} (q : C 3 [.ref (270), .int (x2), .int (4)] h (fun r g => lx_X9_roomOf nc C Q 73 [.ref (270), .int (x1), .int (x2)] (r :: []) g)) : lx_X9_roomOf nc C Q 67 [.ref (270), .int (x1), .int (x2)] [] h := by
  refine tf_LW_go ?_
  exact ⟨Nat.le_of_ble_eq_true rfl, Nat.le_of_ble_eq_true rfl, q⟩
set_option maxRecDepth 100000 in
theorem go_X9_roomOf_73 {nc : Nat} {C : tf_C} {Q : tf_Q} {h : LH} (hn : 297 ≤ nc) {x1 : Int32} {x2 : Int32} {y0 : Int32} (q : Q (.int (y0)) h) : lx_X9_roomOf nc C Q 73 [.ref (270), .int (x1), .int (x2)] [.int (y0)] h := by
  refine tf_LW_go ?_
  exact ⟨(by first | trivial | rfl), q⟩
abbrev lx_X9_leastRoom (nc : Nat) (C : tf_C) (Q : tf_Q) : tf_X := tf_LW nc C (tf_F 7) (tf_M 7) (tf_I 7) (tf_Eh 43) 1 tb_X9_leastRoom Q
set_option maxRecDepth 100000 in
theorem go_X9_leastRoom_0 {nc : Nat} {C : tf_C} {Q : tf_Q} {h : LH} (hn : 297 ≤ nc) (q : lx_X9_leastRoom nc C Q 6 [.ref (270), .int (1000000), .int (0)] [] h) : lx_X9_leastRoom nc C Q 0 [.ref (270), tf_z, tf_z] [] h := by
  refine tf_LW_go ?_
  exact q
theorem en_X9_leastRoom {nc d : Nat} {Q : tf_Q} {h : LH} (hn : 297 ≤ nc) (q : lx_X9_leastRoom nc (tf_Cd nc d) Q 0 [.ref (270), tf_z, tf_z] [] h) : tf_Cd nc (d + 1) 43 [.ref (270)] h Q := by
  exact ⟨⟨Nat.le_of_ble_eq_true rfl, Or.inr ⟨rfl, (show 270 < nc by omega)⟩⟩, q⟩
set_option maxRecDepth 100000 in
theorem go_X9_leastRoom_6 {nc : Nat} {C : tf_C} {Q : tf_Q} {h : LH} (hn : 297 ≤ nc) {x1 : Int32} {x2 : Int32} (q : ((h.1 270 30) ≤ x2 → lx_X9_leastRoom nc C Q 30 [.ref (270), .int (x1), .int (x2)] [] h) ∧ (¬ (h.1 270 30) ≤ x2 → C 42 [.ref (270), .int (x2)] h (fun r g => lx_X9_leastRoom nc C Q 20 [.ref (270), .int (x1), .int (x2)] (r :: [.int (x1)]) g))) : lx_X9_leastRoom nc C Q 6 [.ref (270), .int (x1), .int (x2)] [] h := by
  refine tf_LW_go ?_
  exact ⟨⟨(by first | rfl | trivial), (show 270 < nc by omega)⟩, ⟨q.1, fun c1 => ⟨Nat.le_of_ble_eq_true rfl, Nat.le_of_ble_eq_true rfl, (q.2 c1)⟩⟩⟩
set_option maxRecDepth 100000 in
theorem go_X9_leastRoom_20 {nc : Nat} {C : tf_C} {Q : tf_Q} {h : LH} (hn : 297 ≤ nc) {x1 : Int32} {x2 : Int32} {y0 : Int32} {y1 : Int32} (q : C 1 [.int (y0), .int (y1)] h (fun r g => lx_X9_leastRoom nc C Q 23 [.ref (270), .int (x1), .int (x2)] (r :: []) g)) : lx_X9_leastRoom nc C Q 20 [.ref (270), .int (x1), .int (x2)] [.int (y1), .int (y0)] h := by
  refine tf_LW_go ?_
  exact ⟨Nat.le_of_ble_eq_true rfl, Nat.le_of_ble_eq_true rfl, q⟩
set_option maxRecDepth 100000 in
theorem go_X9_leastRoom_23 {nc : Nat} {C : tf_C} {Q : tf_Q} {h : LH} (hn : 297 ≤ nc) {x1 : Int32} {x2 : Int32} {y0 : Int32} (q : lx_X9_leastRoom nc C Q 6 [.ref (270), .int (y0), .int (x2 + 1)] [] h) : lx_X9_leastRoom nc C Q 23 [.ref (270), .int (x1), .int (x2)] [.int (y0)] h := by
  refine tf_LW_go ?_
  exact q
set_option maxRecDepth 100000 in
theorem go_X9_leastRoom_30 {nc : Nat} {C : tf_C} {Q : tf_Q} {h : LH} (hn : 297 ≤ nc) {x1 : Int32} {x2 : Int32} (q : Q (.int (x1)) h) : lx_X9_leastRoom nc C Q 30 [.ref (270), .int (x1), .int (x2)] [] h := by
  refine tf_LW_go ?_
  exact ⟨(by first | trivial | rfl), q⟩
abbrev lx_X9_laysCycle (nc : Nat) (C : tf_C) (Q : tf_Q) : tf_X := tf_LW nc C (tf_F 7) (tf_M 7) (tf_I 7) (tf_Eh 44) 0 tb_X9_laysCycle Q
set_option maxRecDepth 100000 in
theorem go_X9_laysCycle_0 {nc : Nat} {C : tf_C} {Q : tf_Q} {h : LH} (hn : 297 ≤ nc) {x1 : Int32} (q : C 3 [.ref (270), .int (x1), .int (5)] h (fun r g => lx_X9_laysCycle nc C Q 6 [.ref (270), .int (x1), tf_z, tf_z, tf_z] (r :: []) g)) : lx_X9_laysCycle nc C Q 0 [.ref (270), .int (x1), tf_z, tf_z, tf_z] [] h := by
  refine tf_LW_go ?_
  exact ⟨Nat.le_of_ble_eq_true rfl, Nat.le_of_ble_eq_true rfl, q⟩
theorem en_X9_laysCycle {nc d : Nat} {Q : tf_Q} {h : LH} (hn : 297 ≤ nc) {x1 : Int32} (q : lx_X9_laysCycle nc (tf_Cd nc d) Q 0 [.ref (270), .int (x1), tf_z, tf_z, tf_z] [] h) : tf_Cd nc (d + 1) 44 [.ref (270), .int (x1)] h Q := by
  exact ⟨⟨Nat.le_of_ble_eq_true rfl, Or.inr ⟨rfl, (show 270 < nc by omega)⟩⟩, q⟩
set_option maxRecDepth 100000 in
theorem go_X9_laysCycle_6 {nc : Nat} {C : tf_C} {Q : tf_Q} {h : LH} (hn : 297 ≤ nc) {x1 : Int32} {y0 : Int32} (q : (y0 = (0 : Int32) → lx_X9_laysCycle nc C Q 14 [.ref (270), .int (x1), tf_z, tf_z, tf_z] [.int (1)] h) ∧ (¬ y0 = (0 : Int32) → lx_X9_laysCycle nc C Q 13 [.ref (270), .int (x1), tf_z, tf_z, tf_z] [] h)) : lx_X9_laysCycle nc C Q 6 [.ref (270), .int (x1), tf_z, tf_z, tf_z] [.int (y0)] h := by
  refine tf_LW_go ?_
  exact ⟨fun c1 => (q.1 c1), q.2⟩
set_option maxRecDepth 100000 in
theorem go_X9_laysCycle_13 {nc : Nat} {C : tf_C} {Q : tf_Q} {h : LH} (hn : 297 ≤ nc) {x1 : Int32} (q : lx_X9_laysCycle nc C Q 14 [.ref (270), .int (x1), tf_z, tf_z, tf_z] [.int (0)] h) : lx_X9_laysCycle nc C Q 13 [.ref (270), .int (x1), tf_z, tf_z, tf_z] [] h := by
  refine tf_LW_go ?_
  exact q
set_option maxRecDepth 100000 in
theorem go_X9_laysCycle_14 {nc : Nat} {C : tf_C} {Q : tf_Q} {h : LH} (hn : 297 ≤ nc) {x1 : Int32} {y0 : Int32} (q : (y0 = (0 : Int32) → lx_X9_laysCycle nc C Q 25 [.ref (270), .int (x1), .int (y0), tf_z, tf_z] [.int (x1), .ref (270)] h) ∧ (¬ y0 = (0 : Int32) → lx_X9_laysCycle nc C Q 26 [.ref (270), .int (x1), .int (y0), tf_z, tf_z] [.int (0), .int (x1), .ref (270)] h)) : lx_X9_laysCycle nc C Q 14 [.ref (270), .int (x1), tf_z, tf_z, tf_z] [.int (y0)] h := by
  refine tf_LW_go ?_
  exact ⟨q.1, fun c1 => (q.2 c1)⟩
set_option maxRecDepth 100000 in
theorem go_X9_laysCycle_25 {nc : Nat} {C : tf_C} {Q : tf_Q} {h : LH} (hn : 297 ≤ nc) {x1 : Int32} {x2 : Int32} {y1 : Int32} (q : lx_X9_laysCycle nc C Q 26 [.ref (270), .int (x1), .int (x2), tf_z, tf_z] [.int (1), .int (y1), .ref (270)] h) : lx_X9_laysCycle nc C Q 25 [.ref (270), .int (x1), .int (x2), tf_z, tf_z] [.int (y1), .ref (270)] h := by
  refine tf_LW_go ?_
  exact q
set_option maxRecDepth 100000 in
theorem go_X9_laysCycle_26 {nc : Nat} {C : tf_C} {Q : tf_Q} {h : LH} (hn : 297 ≤ nc) {x1 : Int32} {x2 : Int32} {y1 : Int32} {y2 : Int32} (q : C 3 [.ref (270), .int (y1), .int (y2)] h (fun r g => lx_X9_laysCycle nc C Q 29 [.ref (270), .int (x1), .int (x2), tf_z, tf_z] (r :: []) g)) : lx_X9_laysCycle nc C Q 26 [.ref (270), .int (x1), .int (x2), tf_z, tf_z] [.int (y2), .int (y1), .ref (270)] h := by
  refine tf_LW_go ?_
  exact ⟨Nat.le_of_ble_eq_true rfl, Nat.le_of_ble_eq_true rfl, q⟩
set_option maxRecDepth 100000 in
theorem go_X9_laysCycle_29 {nc : Nat} {C : tf_C} {Q : tf_Q} {h : LH} (hn : 297 ≤ nc) {x1 : Int32} {x2 : Int32} {y0 : Int32} (q : (x2 = (0 : Int32) → lx_X9_laysCycle nc C Q 40 [.ref (270), .int (x1), .int (x2), .int (y0), tf_z] [.int (x1), .ref (270)] h) ∧ (¬ x2 = (0 : Int32) → lx_X9_laysCycle nc C Q 41 [.ref (270), .int (x1), .int (x2), .int (y0), tf_z] [.int (1), .int (x1), .ref (270)] h)) : lx_X9_laysCycle nc C Q 29 [.ref (270), .int (x1), .int (x2), tf_z, tf_z] [.int (y0)] h := by
  refine tf_LW_go ?_
  exact ⟨q.1, fun c1 => (q.2 c1)⟩
set_option maxRecDepth 100000 in
theorem go_X9_laysCycle_40 {nc : Nat} {C : tf_C} {Q : tf_Q} {h : LH} (hn : 297 ≤ nc) {x1 : Int32} {x2 : Int32} {x3 : Int32} {y1 : Int32} (q : lx_X9_laysCycle nc C Q 41 [.ref (270), .int (x1), .int (x2), .int (x3), tf_z] [.int (0), .int (y1), .ref (270)] h) : lx_X9_laysCycle nc C Q 40 [.ref (270), .int (x1), .int (x2), .int (x3), tf_z] [.int (y1), .ref (270)] h := by
  refine tf_LW_go ?_
  exact q
set_option maxRecDepth 100000 in
theorem go_X9_laysCycle_41 {nc : Nat} {C : tf_C} {Q : tf_Q} {h : LH} (hn : 297 ≤ nc) {x1 : Int32} {x2 : Int32} {x3 : Int32} {y1 : Int32} {y2 : Int32} (q : C 3 [.ref (270), .int (y1), .int (y2)] h (fun r g => lx_X9_laysCycle nc C Q 44 [.ref (270), .int (x1), .int (x2), .int (x3), tf_z] (r :: []) g)) : lx_X9_laysCycle nc C Q 41 [.ref (270), .int (x1), .int (x2), .int (x3), tf_z] [.int (y2), .int (y1), .ref (270)] h := by
  refine tf_LW_go ?_
  exact ⟨Nat.le_of_ble_eq_true rfl, Nat.le_of_ble_eq_true rfl, q⟩
set_option maxRecDepth 100000 in
theorem go_X9_laysCycle_44 {nc : Nat} {C : tf_C} {Q : tf_Q} {h : LH} (hn : 297 ≤ nc) {x1 : Int32} {x2 : Int32} {x3 : Int32} {y0 : Int32} (q : C 39 [.ref (270), .int (x3), .int (y0)] h (fun r g => lx_X9_laysCycle nc C Q 54 [.ref (270), .int (x1), .int (x2), .int (x3), .int (y0)] (r :: [.ref (270)]) g)) : lx_X9_laysCycle nc C Q 44 [.ref (270), .int (x1), .int (x2), .int (x3), tf_z] [.int (y0)] h := by
  refine tf_LW_go ?_
  exact ⟨Nat.le_of_ble_eq_true rfl, Nat.le_of_ble_eq_true rfl, q⟩
set_option maxRecDepth 100000 in
theorem go_X9_laysCycle_54 {nc : Nat} {C : tf_C} {Q : tf_Q} {h : LH} (hn : 297 ≤ nc) {x1 : Int32} {x2 : Int32} {x3 : Int32} {x4 : Int32} {y1 : Int32} (q : C 40 [.ref (270), .int ((tf_up (tf_up h.1 270 31 y1) 270 30 0) 270 31), .int (x3)] (tf_up (tf_up h.1 270 31 y1) 270 30 0, h.2) (fun r g => lx_X9_laysCycle nc C Q 71 [.ref (270), .int (x1), .int (x2), .int (x3), .int (x4)] [] g)) : lx_X9_laysCycle nc C Q 54 [.ref (270), .int (x1), .int (x2), .int (x3), .int (x4)] [.int (y1), .ref (270)] h := by
  refine tf_LW_go ?_
  exact ⟨⟨(by first | rfl | trivial), (show 270 < nc by omega), (by first | rfl | trivial)⟩, ⟨⟨(by first | rfl | trivial), (show 270 < nc by omega), (by first | rfl | trivial)⟩, ⟨⟨(by first | rfl | trivial), (show 270 < nc by omega)⟩, ⟨Nat.le_of_ble_eq_true rfl, Nat.le_of_ble_eq_true rfl, q⟩⟩⟩⟩
set_option maxRecDepth 100000 in
theorem go_X9_laysCycle_71 {nc : Nat} {C : tf_C} {Q : tf_Q} {h : LH} (hn : 297 ≤ nc) {x1 : Int32} {x2 : Int32} {x3 : Int32} {x4 : Int32} (q : C 38 [.ref (270), .int (x1), .int (x3)] h (fun r g => lx_X9_laysCycle nc C Q 77 [.ref (270), .int (x1), .int (x2), .int (x3), .int (x4)] [] g)) : lx_X9_laysCycle nc C Q 71 [.ref (270), .int (x1), .int (x2), .int (x3), .int (x4)] [] h := by
  refine tf_LW_go ?_
  exact ⟨Nat.le_of_ble_eq_true rfl, Nat.le_of_ble_eq_true rfl, q⟩
set_option maxRecDepth 100000 in
theorem go_X9_laysCycle_77 {nc : Nat} {C : tf_C} {Q : tf_Q} {h : LH} (hn : 297 ≤ nc) {x1 : Int32} {x2 : Int32} {x3 : Int32} {x4 : Int32} (q : C 41 [.ref (270), .int (x4), .int (h.1 270 31)] h (fun r g => lx_X9_laysCycle nc C Q 87 [.ref (270), .int (x1), .int (x2), .int (x3), .int (x4)] [] g)) : lx_X9_laysCycle nc C Q 77 [.ref (270), .int (x1), .int (x2), .int (x3), .int (x4)] [] h := by
  refine tf_LW_go ?_
  exact ⟨⟨(by first | rfl | trivial), (show 270 < nc by omega)⟩, ⟨Nat.le_of_ble_eq_true rfl, Nat.le_of_ble_eq_true rfl, q⟩⟩
set_option maxRecDepth 100000 in
theorem go_X9_laysCycle_87 {nc : Nat} {C : tf_C} {Q : tf_Q} {h : LH} (hn : 297 ≤ nc) {x1 : Int32} {x2 : Int32} {x3 : Int32} {x4 : Int32} (q : Q tf_z h) : lx_X9_laysCycle nc C Q 87 [.ref (270), .int (x1), .int (x2), .int (x3), .int (x4)] [] h := by
  refine tf_LW_go ?_
  exact ⟨(by first | rfl | trivial), q⟩
abbrev lx_X9_leaves (nc : Nat) (C : tf_C) (Q : tf_Q) : tf_X := tf_LW nc C (tf_F 7) (tf_M 7) (tf_I 7) (tf_Eh 45) 1 tb_X9_leaves Q
set_option maxRecDepth 100000 in
theorem go_X9_leaves_0 {nc : Nat} {C : tf_C} {Q : tf_Q} {h : LH} (hn : 297 ≤ nc) {x1 : Int32} (q : lx_X9_leaves nc C Q 4 [.ref (270), .int (x1), .int ((-1)), .int (0)] [] h) : lx_X9_leaves nc C Q 0 [.ref (270), .int (x1), tf_z, tf_z] [] h := by
  refine tf_LW_go ?_
  exact q
theorem en_X9_leaves {nc d : Nat} {Q : tf_Q} {h : LH} (hn : 297 ≤ nc) {x1 : Int32} (q : lx_X9_leaves nc (tf_Cd nc d) Q 0 [.ref (270), .int (x1), tf_z, tf_z] [] h) : tf_Cd nc (d + 1) 45 [.ref (270), .int (x1)] h Q := by
  exact ⟨⟨Nat.le_of_ble_eq_true rfl, Or.inr ⟨rfl, (show 270 < nc by omega)⟩⟩, q⟩
set_option maxRecDepth 100000 in
theorem go_X9_leaves_4 {nc : Nat} {C : tf_C} {Q : tf_Q} {h : LH} (hn : 297 ≤ nc) {x1 : Int32} {x2 : Int32} {x3 : Int32} (q : ((h.1 270 30) ≤ x3 → lx_X9_leaves nc C Q 33 [.ref (270), .int (x1), .int (x2), .int (x3)] [] h) ∧ (¬ (h.1 270 30) ≤ x3 → C 42 [.ref (270), .int (x3)] h (fun r g => lx_X9_leaves nc C Q 17 [.ref (270), .int (x1), .int (x2), .int (x3)] (r :: []) g))) : lx_X9_leaves nc C Q 4 [.ref (270), .int (x1), .int (x2), .int (x3)] [] h := by
  refine tf_LW_go ?_
  exact ⟨⟨(by first | rfl | trivial), (show 270 < nc by omega)⟩, ⟨q.1, fun c1 => ⟨Nat.le_of_ble_eq_true rfl, Nat.le_of_ble_eq_true rfl, (q.2 c1)⟩⟩⟩
set_option maxRecDepth 100000 in
theorem go_X9_leaves_17 {nc : Nat} {C : tf_C} {Q : tf_Q} {h : LH} (hn : 297 ≤ nc) {x1 : Int32} {x2 : Int32} {x3 : Int32} {y0 : Int32} (q : (y0 = x1 → lx_X9_leaves nc C Q 26 [.ref (270), .int (x1), .int (x2), .int (x3)] [.int (x3)] h) ∧ (¬ y0 = x1 → lx_X9_leaves nc C Q 25 [.ref (270), .int (x1), .int (x2), .int (x3)] [] h)) : lx_X9_leaves nc C Q 17 [.ref (270), .int (x1), .int (x2), .int (x3)] [.int (y0)] h := by
  refine tf_LW_go ?_
  exact ⟨fun c1 => (q.1 c1), q.2⟩
set_option maxRecDepth 100000 in
theorem go_X9_leaves_25 {nc : Nat} {C : tf_C} {Q : tf_Q} {h : LH} (hn : 297 ≤ nc) {x1 : Int32} {x2 : Int32} {x3 : Int32} (q : lx_X9_leaves nc C Q 26 [.ref (270), .int (x1), .int (x2), .int (x3)] [.int (x2)] h) : lx_X9_leaves nc C Q 25 [.ref (270), .int (x1), .int (x2), .int (x3)] [] h := by
  refine tf_LW_go ?_
  exact q
set_option maxRecDepth 100000 in
theorem go_X9_leaves_26 {nc : Nat} {C : tf_C} {Q : tf_Q} {h : LH} (hn : 297 ≤ nc) {x1 : Int32} {x2 : Int32} {x3 : Int32} {y0 : Int32} (q : lx_X9_leaves nc C Q 4 [.ref (270), .int (x1), .int (y0), .int (x3 + 1)] [] h) : lx_X9_leaves nc C Q 26 [.ref (270), .int (x1), .int (x2), .int (x3)] [.int (y0)] h := by
  refine tf_LW_go ?_
  exact q
set_option maxRecDepth 100000 in
theorem go_X9_leaves_33 {nc : Nat} {C : tf_C} {Q : tf_Q} {h : LH} (hn : 297 ≤ nc) {x1 : Int32} {x2 : Int32} {x3 : Int32} (q : (vp_in x2 16) ∧ Q (.int (h.1 285 (x2 : Int32).toNatClampNeg)) h) : lx_X9_leaves nc C Q 33 [.ref (270), .int (x1), .int (x2), .int (x3)] [] h := by
  refine tf_LW_go ?_
  exact ⟨⟨(by first | rfl | trivial), (show 270 < nc by omega)⟩, ⟨⟨(by first | rfl | trivial), (show 285 < nc by omega), q.1⟩, ⟨(by first | trivial | rfl), q.2⟩⟩⟩
abbrev lx_X9_flows (nc : Nat) (C : tf_C) (Q : tf_Q) : tf_X := tf_LW nc C (tf_F 7) (tf_M 7) (tf_I 7) (tf_Eh 46) 0 tb_X9_flows Q
set_option maxRecDepth 100000 in
theorem go_X9_flows_0 {nc : Nat} {C : tf_C} {Q : tf_Q} {h : LH} (hn : 297 ≤ nc) {x1 : Int32} (q : lx_X9_flows nc C Q 2 [.ref (270), .int (x1), .int (0), tf_z, tf_z] [] h) : lx_X9_flows nc C Q 0 [.ref (270), .int (x1), tf_z, tf_z, tf_z] [] h := by
  refine tf_LW_go ?_
  exact q
theorem en_X9_flows {nc d : Nat} {Q : tf_Q} {h : LH} (hn : 297 ≤ nc) {x1 : Int32} (q : lx_X9_flows nc (tf_Cd nc d) Q 0 [.ref (270), .int (x1), tf_z, tf_z, tf_z] [] h) : tf_Cd nc (d + 1) 46 [.ref (270), .int (x1)] h Q := by
  exact ⟨⟨Nat.le_of_ble_eq_true rfl, Or.inr ⟨rfl, (show 270 < nc by omega)⟩⟩, q⟩
set_option maxRecDepth 100000 in
theorem go_X9_flows_2 {nc : Nat} {C : tf_C} {Q : tf_Q} {h : LH} (hn : 297 ≤ nc) {x1 : Int32} {x2 : Int32} {x3 : Value} {x4 : Value} (q : ((h.1 270 30) ≤ x2 → lx_X9_flows nc C Q 76 [.ref (270), .int (x1), .int (x2), x3, x4] [] h) ∧ (¬ (h.1 270 30) ≤ x2 → (vp_in x2 16) ∧ C 27 [.int (h.1 285 (x2 : Int32).toNatClampNeg)] h (fun r g => lx_X9_flows nc C Q 21 [.ref (270), .int (x1), .int (x2), .int (h.1 285 (x2 : Int32).toNatClampNeg), x4] (r :: []) g))) : lx_X9_flows nc C Q 2 [.ref (270), .int (x1), .int (x2), x3, x4] [] h := by
  refine tf_LW_go ?_
  exact ⟨⟨(by first | rfl | trivial), (show 270 < nc by omega)⟩, ⟨q.1, fun c1 => ⟨⟨(by first | rfl | trivial), (show 270 < nc by omega)⟩, ⟨⟨(by first | rfl | trivial), (show 285 < nc by omega), (q.2 c1).1⟩, ⟨Nat.le_of_ble_eq_true rfl, Nat.le_of_ble_eq_true rfl, (q.2 c1).2⟩⟩⟩⟩⟩
set_option maxRecDepth 100000 in
theorem go_X9_flows_21 {nc : Nat} {C : tf_C} {Q : tf_Q} {h : LH} (hn : 297 ≤ nc) {x1 : Int32} {x2 : Int32} {x3 : Int32} {x4 : Value} {y0 : Int32} (q : (y0 = (0 : Int32) → lx_X9_flows nc C Q 34 [.ref (270), .int (x1), .int (x2), .int (x3), x4] [] h) ∧ (¬ y0 = (0 : Int32) → lx_X9_flows nc C Q 43 [.ref (270), .int (x1), .int (x2), .int (x3), x4] [.int ((65 + x3) - 100)] h)) : lx_X9_flows nc C Q 21 [.ref (270), .int (x1), .int (x2), .int (x3), x4] [.int (y0)] h := by
  refine tf_LW_go ?_
  exact ⟨q.1, fun c1 => (q.2 c1)⟩
set_option maxRecDepth 100000 in
theorem go_X9_flows_34 {nc : Nat} {C : tf_C} {Q : tf_Q} {h : LH} (hn : 297 ≤ nc) {x1 : Int32} {x2 : Int32} {x3 : Int32} {x4 : Value} (q : lx_X9_flows nc C Q 43 [.ref (270), .int (x1), .int (x2), .int (x3), x4] [.int ((72 + (7 * x3)) + 4)] h) : lx_X9_flows nc C Q 34 [.ref (270), .int (x1), .int (x2), .int (x3), x4] [] h := by
  refine tf_LW_go ?_
  exact q
set_option maxRecDepth 100000 in
theorem go_X9_flows_43 {nc : Nat} {C : tf_C} {Q : tf_Q} {h : LH} (hn : 297 ≤ nc) {x1 : Int32} {x2 : Int32} {x3 : Int32} {x4 : Value} {y0 : Int32} (q : (vp_in y0 865) ∧ (vp_in x2 16) ∧ ((h.1 286 (x2 : Int32).toNatClampNeg) = (0 : Int32) → lx_X9_flows nc C Q 66 [.ref (270), .int (x1), .int (x2), .int (x3), .int (y0)] [.int (h.1 271 (y0 : Int32).toNatClampNeg), .int (y0), .ref (271)] h) ∧ (¬ (h.1 286 (x2 : Int32).toNatClampNeg) = (0 : Int32) → lx_X9_flows nc C Q 68 [.ref (270), .int (x1), .int (x2), .int (x3), .int (y0)] [.int (x1), .int (h.1 271 (y0 : Int32).toNatClampNeg), .int (y0), .ref (271)] h)) : lx_X9_flows nc C Q 43 [.ref (270), .int (x1), .int (x2), .int (x3), x4] [.int (y0)] h := by
  refine tf_LW_go ?_
  exact ⟨⟨(by first | rfl | trivial), (show 270 < nc by omega)⟩, ⟨⟨(by first | rfl | trivial), (show 271 < nc by omega), q.1⟩, ⟨⟨(by first | rfl | trivial), (show 270 < nc by omega)⟩, ⟨⟨(Or.inr (by first | rfl | trivial)), (show 286 < nc by omega), q.2.1⟩, ⟨q.2.2.1, fun c1 => (q.2.2.2 c1)⟩⟩⟩⟩⟩
set_option maxRecDepth 100000 in
theorem go_X9_flows_66 {nc : Nat} {C : tf_C} {Q : tf_Q} {h : LH} (hn : 297 ≤ nc) {x1 : Int32} {x2 : Int32} {x3 : Int32} {x4 : Int32} {y0 ny0 : Nat} {y1 : Int32} {y2 : Int32} (Ky0_0 : tf_K y0 = 8) (Ny0_0 : tf_N y0 = ny0) (By0 : y0 < nc) (q : lx_X9_flows nc C Q 68 [.ref (270), .int (x1), .int (x2), .int (x3), .int (x4)] [.int (-x1), .int (y2), .int (y1), .ref (y0)] h) : lx_X9_flows nc C Q 66 [.ref (270), .int (x1), .int (x2), .int (x3), .int (x4)] [.int (y2), .int (y1), .ref (y0)] h := by
  refine tf_LW_go ?_
  show lx_X9_flows nc C Q 68 [.ref (270), .int (x1), .int (x2), .int (x3), .int (x4)] [.int (-x1), .int (y2), .int (y1), .ref (y0)] h
  try simp only [Ny0_0]
  exact q
set_option maxRecDepth 100000 in
theorem go_X9_flows_68 {nc : Nat} {C : tf_C} {Q : tf_Q} {h : LH} (hn : 297 ≤ nc) {x1 : Int32} {x2 : Int32} {x3 : Int32} {x4 : Int32} {y0 ny0 : Nat} {y1 : Int32} {y2 : Int32} {y3 : Int32} (Ky0_0 : tf_K y0 = 8) (Ny0_0 : tf_N y0 = ny0) (By0 : y0 < nc) (q : (vp_in y1 ny0) ∧ lx_X9_flows nc C Q 2 [.ref (270), .int (x1), .int (x2 + 1), .int (x3), .int (x4)] [] (tf_up h.1 y0 (y1 : Int32).toNatClampNeg (y2 + y3), h.2)) : lx_X9_flows nc C Q 68 [.ref (270), .int (x1), .int (x2), .int (x3), .int (x4)] [.int (y3), .int (y2), .int (y1), .ref (y0)] h := by
  refine tf_LW_go ?_
  show (tf_K y0 = 8 ∧ y0 < nc ∧ vp_in y1 (tf_N y0)) ∧ lx_X9_flows nc C Q 2 [.ref (270), .int (x1), .int (x2 + 1), .int (x3), .int (x4)] [] (tf_up h.1 y0 (y1 : Int32).toNatClampNeg (y2 + y3), h.2)
  try simp only [Ny0_0]
  exact ⟨⟨Ky0_0, (show y0 < nc by omega), q.1⟩, q.2⟩
set_option maxRecDepth 100000 in
theorem go_X9_flows_76 {nc : Nat} {C : tf_C} {Q : tf_Q} {h : LH} (hn : 297 ≤ nc) {x1 : Int32} {x2 : Int32} {x3 : Value} {x4 : Value} (q : Q tf_z h) : lx_X9_flows nc C Q 76 [.ref (270), .int (x1), .int (x2), x3, x4] [] h := by
  refine tf_LW_go ?_
  exact ⟨(by first | rfl | trivial), q⟩
abbrev lx_X9_goesOut (nc : Nat) (C : tf_C) (Q : tf_Q) : tf_X := tf_LW nc C (tf_F 7) (tf_M 7) (tf_I 7) (tf_Eh 47) 0 tb_X9_goesOut Q
set_option maxRecDepth 100000 in
theorem go_X9_goesOut_0 {nc : Nat} {C : tf_C} {Q : tf_Q} {h : LH} (hn : 297 ≤ nc) {x1 : Int32} (q : C 27 [.int (x1)] h (fun r g => lx_X9_goesOut nc C Q 4 [.ref (270), .int (x1)] (r :: []) g)) : lx_X9_goesOut nc C Q 0 [.ref (270), .int (x1)] [] h := by
  refine tf_LW_go ?_
  exact ⟨Nat.le_of_ble_eq_true rfl, Nat.le_of_ble_eq_true rfl, q⟩
theorem en_X9_goesOut {nc d : Nat} {Q : tf_Q} {h : LH} (hn : 297 ≤ nc) {x1 : Int32} (q : lx_X9_goesOut nc (tf_Cd nc d) Q 0 [.ref (270), .int (x1)] [] h) : tf_Cd nc (d + 1) 47 [.ref (270), .int (x1)] h Q := by
  exact ⟨⟨Nat.le_of_ble_eq_true rfl, Or.inr ⟨rfl, (show 270 < nc by omega)⟩⟩, q⟩
set_option maxRecDepth 100000 in
theorem go_X9_goesOut_4 {nc : Nat} {C : tf_C} {Q : tf_Q} {h : LH} (hn : 297 ≤ nc) {x1 : Int32} {y0 : Int32} (q : (y0 = (0 : Int32) → lx_X9_goesOut nc C Q 23 [.ref (270), .int (x1)] [] h) ∧ (¬ y0 = (0 : Int32) → (vp_in ((51 + x1) - 100) 865) ∧ lx_X9_goesOut nc C Q 43 [.ref (270), .int (x1)] [] (tf_up h.1 271 ((51 + x1) - 100 : Int32).toNatClampNeg 0, h.2))) : lx_X9_goesOut nc C Q 4 [.ref (270), .int (x1)] [.int (y0)] h := by
  refine tf_LW_go ?_
  exact ⟨q.1, fun c1 => ⟨⟨(by first | rfl | trivial), (show 270 < nc by omega)⟩, ⟨⟨(by first | rfl | trivial), (show 271 < nc by omega), (q.2 c1).1⟩, (q.2 c1).2⟩⟩⟩
set_option maxRecDepth 100000 in
theorem go_X9_goesOut_23 {nc : Nat} {C : tf_C} {Q : tf_Q} {h : LH} (hn : 297 ≤ nc) {x1 : Int32} (q : C 3 [.ref (270), .int (x1), .int (4)] h (fun r g => lx_X9_goesOut nc C Q 32 [.ref (270), .int (x1)] (r :: [.int (5), .int (x1), .ref (270)]) g)) : lx_X9_goesOut nc C Q 23 [.ref (270), .int (x1)] [] h := by
  refine tf_LW_go ?_
  exact ⟨Nat.le_of_ble_eq_true rfl, Nat.le_of_ble_eq_true rfl, q⟩
set_option maxRecDepth 100000 in
theorem go_X9_goesOut_32 {nc : Nat} {C : tf_C} {Q : tf_Q} {h : LH} (hn : 297 ≤ nc) {x1 : Int32} {y1 : Int32} {y2 : Int32} {y3 : Int32} (q : (y3 = (0 : Int32) → lx_X9_goesOut nc C Q 40 [.ref (270), .int (x1)] [.int (0), .int (y2), .int (y1), .ref (270)] h) ∧ (¬ y3 = (0 : Int32) → lx_X9_goesOut nc C Q 39 [.ref (270), .int (x1)] [.int (y2), .int (y1), .ref (270)] h)) : lx_X9_goesOut nc C Q 32 [.ref (270), .int (x1)] [.int (y3), .int (y2), .int (y1), .ref (270)] h := by
  refine tf_LW_go ?_
  exact ⟨fun c1 => (q.1 c1), q.2⟩
set_option maxRecDepth 100000 in
theorem go_X9_goesOut_39 {nc : Nat} {C : tf_C} {Q : tf_Q} {h : LH} (hn : 297 ≤ nc) {x1 : Int32} {y1 : Int32} {y2 : Int32} (q : lx_X9_goesOut nc C Q 40 [.ref (270), .int (x1)] [.int (1), .int (y2), .int (y1), .ref (270)] h) : lx_X9_goesOut nc C Q 39 [.ref (270), .int (x1)] [.int (y2), .int (y1), .ref (270)] h := by
  refine tf_LW_go ?_
  exact q
set_option maxRecDepth 100000 in
theorem go_X9_goesOut_40 {nc : Nat} {C : tf_C} {Q : tf_Q} {h : LH} (hn : 297 ≤ nc) {x1 : Int32} {y1 : Int32} {y2 : Int32} {y3 : Int32} (q : C 4 [.ref (270), .int (y1), .int (y2), .int (y3)] h (fun r g => lx_X9_goesOut nc C Q 43 [.ref (270), .int (x1)] [] g)) : lx_X9_goesOut nc C Q 40 [.ref (270), .int (x1)] [.int (y3), .int (y2), .int (y1), .ref (270)] h := by
  refine tf_LW_go ?_
  exact ⟨Nat.le_of_ble_eq_true rfl, Nat.le_of_ble_eq_true rfl, q⟩
set_option maxRecDepth 100000 in
theorem go_X9_goesOut_43 {nc : Nat} {C : tf_C} {Q : tf_Q} {h : LH} (hn : 297 ≤ nc) {x1 : Int32} (q : Q tf_z h) : lx_X9_goesOut nc C Q 43 [.ref (270), .int (x1)] [] h := by
  refine tf_LW_go ?_
  exact ⟨(by first | rfl | trivial), q⟩
abbrev lx_X9_isPast (nc : Nat) (C : tf_C) (Q : tf_Q) : tf_X := tf_LW nc C (tf_F 7) (tf_M 7) (tf_I 7) (tf_Eh 48) 0 tb_X9_isPast Q
set_option maxRecDepth 100000 in
theorem go_X9_isPast_0 {nc : Nat} {C : tf_C} {Q : tf_Q} {h : LH} (hn : 297 ≤ nc) {x1 : Int32} {x2 : Int32} {x3 : Int32} (q : lx_X9_isPast nc C Q 4 [.ref (270), .int (x1), .int (x2), .int (x3), .int (35)] [] h) : lx_X9_isPast nc C Q 0 [.ref (270), .int (x1), .int (x2), .int (x3), tf_z] [] h := by
  refine tf_LW_go ?_
  exact q
theorem en_X9_isPast {nc d : Nat} {Q : tf_Q} {h : LH} (hn : 297 ≤ nc) {x1 : Int32} {x2 : Int32} {x3 : Int32} (q : lx_X9_isPast nc (tf_Cd nc d) Q 0 [.ref (270), .int (x1), .int (x2), .int (x3), tf_z] [] h) : tf_Cd nc (d + 1) 48 [.ref (270), .int (x1), .int (x2), .int (x3)] h Q := by
  exact ⟨⟨Nat.le_of_ble_eq_true rfl, Or.inr ⟨rfl, (show 270 < nc by omega)⟩⟩, q⟩
set_option maxRecDepth 100000 in
theorem go_X9_isPast_4 {nc : Nat} {C : tf_C} {Q : tf_Q} {h : LH} (hn : 297 ≤ nc) {x1 : Int32} {x2 : Int32} {x3 : Int32} {x4 : Int32} (q : (x4 < (3 : Int32) → lx_X9_isPast nc C Q 38 [.ref (270), .int (x1), .int (x2), .int (x3), .int (x4)] [] h) ∧ (¬ x4 < (3 : Int32) → (vp_in ((8 + x4) - 3) 865) ∧ (vp_in (8 + x4) 865) ∧ lx_X9_isPast nc C Q 4 [.ref (270), .int (x1), .int (x2), .int (x3), .int (x4 + (-1))] [] (tf_up h.1 271 (8 + x4 : Int32).toNatClampNeg (h.1 271 ((8 + x4) - 3 : Int32).toNatClampNeg), h.2))) : lx_X9_isPast nc C Q 4 [.ref (270), .int (x1), .int (x2), .int (x3), .int (x4)] [] h := by
  refine tf_LW_go ?_
  exact ⟨q.1, fun c1 => ⟨⟨(by first | rfl | trivial), (show 270 < nc by omega)⟩, ⟨⟨(by first | rfl | trivial), (show 270 < nc by omega)⟩, ⟨⟨(by first | rfl | trivial), (show 271 < nc by omega), (q.2 c1).1⟩, ⟨⟨(by first | rfl | trivial), (show 271 < nc by omega), (q.2 c1).2.1⟩, (q.2 c1).2.2⟩⟩⟩⟩⟩
set_option maxRecDepth 100000 in
theorem go_X9_isPast_38 {nc : Nat} {C : tf_C} {Q : tf_Q} {h : LH} (hn : 297 ≤ nc) {x1 : Int32} {x2 : Int32} {x3 : Int32} {x4 : Int32} (q : C 1 [.int (12), .int (((tf_up (tf_up (tf_up h.1 271 (8 : Int32).toNatClampNeg x1) 271 (9 : Int32).toNatClampNeg x2) 271 (10 : Int32).toNatClampNeg x3) 271 (7 : Int32).toNatClampNeg) + 1)] (tf_up (tf_up (tf_up h.1 271 (8 : Int32).toNatClampNeg x1) 271 (9 : Int32).toNatClampNeg x2) 271 (10 : Int32).toNatClampNeg x3, h.2) (fun r g => lx_X9_isPast nc C Q 82 [.ref (270), .int (x1), .int (x2), .int (x3), .int (x4)] (r :: [.int (7), .ref (271)]) g)) : lx_X9_isPast nc C Q 38 [.ref (270), .int (x1), .int (x2), .int (x3), .int (x4)] [] h := by
  refine tf_LW_go ?_
  exact ⟨⟨(by first | rfl | trivial), (show 270 < nc by omega)⟩, ⟨⟨(by first | rfl | trivial), (show 271 < nc by omega), (vp_in_iff.mpr (by decide))⟩, ⟨⟨(by first | rfl | trivial), (show 270 < nc by omega)⟩, ⟨⟨(by first | rfl | trivial), (show 271 < nc by omega), (vp_in_iff.mpr (by decide))⟩, ⟨⟨(by first | rfl | trivial), (show 270 < nc by omega)⟩, ⟨⟨(by first | rfl | trivial), (show 271 < nc by omega), (vp_in_iff.mpr (by decide))⟩, ⟨⟨(by first | rfl | trivial), (show 270 < nc by omega)⟩, ⟨⟨(by first | rfl | trivial), (show 270 < nc by omega)⟩, ⟨⟨(by first | rfl | trivial), (show 271 < nc by omega), (vp_in_iff.mpr (by decide))⟩, ⟨Nat.le_of_ble_eq_true rfl, Nat.le_of_ble_eq_true rfl, q⟩⟩⟩⟩⟩⟩⟩⟩⟩⟩
set_option maxRecDepth 100000 in
theorem go_X9_isPast_82 {nc : Nat} {C : tf_C} {Q : tf_Q} {h : LH} (hn : 297 ≤ nc) {x1 : Int32} {x2 : Int32} {x3 : Int32} {x4 : Int32} {y0 ny0 : Nat} {y1 : Int32} {y2 : Int32} (Ky0_0 : tf_K y0 = 8) (Ny0_0 : tf_N y0 = ny0) (By0 : y0 < nc) (q : (vp_in y1 ny0) ∧ (x3 = (0 : Int32) → lx_X9_isPast nc C Q 109 [.ref (270), .int (x1), .int (x2), .int (x3), .int (x4)] [.int (1), .int ((tf_up (tf_up h.1 y0 (y1 : Int32).toNatClampNeg y2) 271 (3 : Int32).toNatClampNeg (((tf_up h.1 y0 (y1 : Int32).toNatClampNeg y2) 271 (3 : Int32).toNatClampNeg) + 1)) 271 (4 : Int32).toNatClampNeg), .int (4), .ref (271)] (tf_up (tf_up h.1 y0 (y1 : Int32).toNatClampNeg y2) 271 (3 : Int32).toNatClampNeg (((tf_up h.1 y0 (y1 : Int32).toNatClampNeg y2) 271 (3 : Int32).toNatClampNeg) + 1), h.2)) ∧ (¬ x3 = (0 : Int32) → lx_X9_isPast nc C Q 108 [.ref (270), .int (x1), .int (x2), .int (x3), .int (x4)] [.int ((tf_up (tf_up h.1 y0 (y1 : Int32).toNatClampNeg y2) 271 (3 : Int32).toNatClampNeg (((tf_up h.1 y0 (y1 : Int32).toNatClampNeg y2) 271 (3 : Int32).toNatClampNeg) + 1)) 271 (4 : Int32).toNatClampNeg), .int (4), .ref (271)] (tf_up (tf_up h.1 y0 (y1 : Int32).toNatClampNeg y2) 271 (3 : Int32).toNatClampNeg (((tf_up h.1 y0 (y1 : Int32).toNatClampNeg y2) 271 (3 : Int32).toNatClampNeg) + 1), h.2))) : lx_X9_isPast nc C Q 82 [.ref (270), .int (x1), .int (x2), .int (x3), .int (x4)] [.int (y2), .int (y1), .ref (y0)] h := by
  refine tf_LW_go ?_
  show (tf_K y0 = 8 ∧ y0 < nc ∧ vp_in y1 (tf_N y0)) ∧ (tf_K 270 = 7 ∧ 270 < nc) ∧ (tf_K 271 = 8 ∧ 271 < nc ∧ vp_in 3 865) ∧ (tf_K 271 = 8 ∧ 271 < nc ∧ vp_in 3 865) ∧ (tf_K 270 = 7 ∧ 270 < nc) ∧ (tf_K 271 = 8 ∧ 271 < nc ∧ vp_in 4 865) ∧ (x3 = (0 : Int32) → lx_X9_isPast nc C Q 109 [.ref (270), .int (x1), .int (x2), .int (x3), .int (x4)] [.int (1), .int ((tf_up (tf_up h.1 y0 (y1 : Int32).toNatClampNeg y2) 271 (3 : Int32).toNatClampNeg (((tf_up h.1 y0 (y1 : Int32).toNatClampNeg y2) 271 (3 : Int32).toNatClampNeg) + 1)) 271 (4 : Int32).toNatClampNeg), .int (4), .ref (271)] (tf_up (tf_up h.1 y0 (y1 : Int32).toNatClampNeg y2) 271 (3 : Int32).toNatClampNeg (((tf_up h.1 y0 (y1 : Int32).toNatClampNeg y2) 271 (3 : Int32).toNatClampNeg) + 1), h.2)) ∧ (¬ x3 = (0 : Int32) → lx_X9_isPast nc C Q 108 [.ref (270), .int (x1), .int (x2), .int (x3), .int (x4)] [.int ((tf_up (tf_up h.1 y0 (y1 : Int32).toNatClampNeg y2) 271 (3 : Int32).toNatClampNeg (((tf_up h.1 y0 (y1 : Int32).toNatClampNeg y2) 271 (3 : Int32).toNatClampNeg) + 1)) 271 (4 : Int32).toNatClampNeg), .int (4), .ref (271)] (tf_up (tf_up h.1 y0 (y1 : Int32).toNatClampNeg y2) 271 (3 : Int32).toNatClampNeg (((tf_up h.1 y0 (y1 : Int32).toNatClampNeg y2) 271 (3 : Int32).toNatClampNeg) + 1), h.2))
  try simp only [Ny0_0]
  exact ⟨⟨Ky0_0, (show y0 < nc by omega), q.1⟩, ⟨⟨(by first | rfl | trivial), (show 270 < nc by omega)⟩, ⟨⟨(by first | rfl | trivial), (show 271 < nc by omega), (vp_in_iff.mpr (by decide))⟩, ⟨⟨(by first | rfl | trivial), (show 271 < nc by omega), (vp_in_iff.mpr (by decide))⟩, ⟨⟨(by first | rfl | trivial), (show 270 < nc by omega)⟩, ⟨⟨(by first | rfl | trivial), (show 271 < nc by omega), (vp_in_iff.mpr (by decide))⟩, ⟨fun c1 => (q.2.1 c1), q.2.2⟩⟩⟩⟩⟩⟩⟩
set_option maxRecDepth 100000 in
theorem go_X9_isPast_108 {nc : Nat} {C : tf_C} {Q : tf_Q} {h : LH} (hn : 297 ≤ nc) {x1 : Int32} {x2 : Int32} {x3 : Int32} {x4 : Int32} {y0 ny0 : Nat} {y1 : Int32} {y2 : Int32} (Ky0_0 : tf_K y0 = 8) (Ny0_0 : tf_N y0 = ny0) (By0 : y0 < nc) (q : lx_X9_isPast nc C Q 109 [.ref (270), .int (x1), .int (x2), .int (x3), .int (x4)] [.int (0), .int (y2), .int (y1), .ref (y0)] h) : lx_X9_isPast nc C Q 108 [.ref (270), .int (x1), .int (x2), .int (x3), .int (x4)] [.int (y2), .int (y1), .ref (y0)] h := by
  refine tf_LW_go ?_
  show lx_X9_isPast nc C Q 109 [.ref (270), .int (x1), .int (x2), .int (x3), .int (x4)] [.int (0), .int (y2), .int (y1), .ref (y0)] h
  try simp only [Ny0_0]
  exact q
set_option maxRecDepth 100000 in
theorem go_X9_isPast_109 {nc : Nat} {C : tf_C} {Q : tf_Q} {h : LH} (hn : 297 ≤ nc) {x1 : Int32} {x2 : Int32} {x3 : Int32} {x4 : Int32} {y0 ny0 : Nat} {y1 : Int32} {y2 : Int32} {y3 : Int32} (Ky0_0 : tf_K y0 = 8) (Ny0_0 : tf_N y0 = ny0) (By0 : y0 < nc) (q : (vp_in y1 ny0) ∧ Q tf_z (tf_up (tf_up h.1 y0 (y1 : Int32).toNatClampNeg (y2 + y3)) 271 (6 : Int32).toNatClampNeg x1, h.2)) : lx_X9_isPast nc C Q 109 [.ref (270), .int (x1), .int (x2), .int (x3), .int (x4)] [.int (y3), .int (y2), .int (y1), .ref (y0)] h := by
  refine tf_LW_go ?_
  show (tf_K y0 = 8 ∧ y0 < nc ∧ vp_in y1 (tf_N y0)) ∧ (tf_K 270 = 7 ∧ 270 < nc) ∧ (tf_K 271 = 8 ∧ 271 < nc ∧ vp_in 6 865) ∧ 0 = 0 ∧ Q tf_z (tf_up (tf_up h.1 y0 (y1 : Int32).toNatClampNeg (y2 + y3)) 271 (6 : Int32).toNatClampNeg x1, h.2)
  try simp only [Ny0_0]
  exact ⟨⟨Ky0_0, (show y0 < nc by omega), q.1⟩, ⟨⟨(by first | rfl | trivial), (show 270 < nc by omega)⟩, ⟨⟨(by first | rfl | trivial), (show 271 < nc by omega), (vp_in_iff.mpr (by decide))⟩, ⟨(by first | rfl | trivial), q.2⟩⟩⟩⟩
abbrev lx_X9_turns (nc : Nat) (C : tf_C) (Q : tf_Q) : tf_X := tf_LW nc C (tf_F 7) (tf_M 7) (tf_I 7) (tf_Eh 49) 1 tb_X9_turns Q
set_option maxRecDepth 100000 in
theorem go_X9_turns_0 {nc : Nat} {C : tf_C} {Q : tf_Q} {h : LH} (hn : 297 ≤ nc) (q : C 30 [.ref (270)] h (fun r g => lx_X9_turns nc C Q 4 [.ref (270), tf_z, tf_z, tf_z] [] g)) : lx_X9_turns nc C Q 0 [.ref (270), tf_z, tf_z, tf_z] [] h := by
  refine tf_LW_go ?_
  exact ⟨Nat.le_of_ble_eq_true rfl, Nat.le_of_ble_eq_true rfl, q⟩
theorem en_X9_turns {nc d : Nat} {Q : tf_Q} {h : LH} (hn : 297 ≤ nc) (q : lx_X9_turns nc (tf_Cd nc d) Q 0 [.ref (270), tf_z, tf_z, tf_z] [] h) : tf_Cd nc (d + 1) 49 [.ref (270)] h Q := by
  exact ⟨⟨Nat.le_of_ble_eq_true rfl, Or.inr ⟨rfl, (show 270 < nc by omega)⟩⟩, q⟩
set_option maxRecDepth 100000 in
theorem go_X9_turns_4 {nc : Nat} {C : tf_C} {Q : tf_Q} {h : LH} (hn : 297 ≤ nc) (q : C 36 [.ref (270)] h (fun r g => lx_X9_turns nc C Q 8 [.ref (270), tf_z, tf_z, tf_z] (r :: []) g)) : lx_X9_turns nc C Q 4 [.ref (270), tf_z, tf_z, tf_z] [] h := by
  refine tf_LW_go ?_
  exact ⟨Nat.le_of_ble_eq_true rfl, Nat.le_of_ble_eq_true rfl, q⟩
set_option maxRecDepth 100000 in
theorem go_X9_turns_8 {nc : Nat} {C : tf_C} {Q : tf_Q} {h : LH} (hn : 297 ≤ nc) {y0 : Int32} (q : (y0 = ((-1) : Int32) → Q (.int ((-1))) h) ∧ (¬ y0 = ((-1) : Int32) → lx_X9_turns nc C Q 16 [.ref (270), .int (y0), tf_z, tf_z] [] h)) : lx_X9_turns nc C Q 8 [.ref (270), tf_z, tf_z, tf_z] [.int (y0)] h := by
  refine tf_LW_go ?_
  exact ⟨fun c1 => ⟨(by first | trivial | rfl), (q.1 c1)⟩, q.2⟩
set_option maxRecDepth 100000 in
theorem go_X9_turns_16 {nc : Nat} {C : tf_C} {Q : tf_Q} {h : LH} (hn : 297 ≤ nc) {x1 : Int32} (q : C 44 [.ref (270), .int (x1)] h (fun r g => lx_X9_turns nc C Q 21 [.ref (270), .int (x1), tf_z, tf_z] [] g)) : lx_X9_turns nc C Q 16 [.ref (270), .int (x1), tf_z, tf_z] [] h := by
  refine tf_LW_go ?_
  exact ⟨Nat.le_of_ble_eq_true rfl, Nat.le_of_ble_eq_true rfl, q⟩
set_option maxRecDepth 100000 in
theorem go_X9_turns_21 {nc : Nat} {C : tf_C} {Q : tf_Q} {h : LH} (hn : 297 ≤ nc) {x1 : Int32} (q : C 43 [.ref (270)] h (fun r g => lx_X9_turns nc C Q 25 [.ref (270), .int (x1), tf_z, tf_z] (r :: []) g)) : lx_X9_turns nc C Q 21 [.ref (270), .int (x1), tf_z, tf_z] [] h := by
  refine tf_LW_go ?_
  exact ⟨Nat.le_of_ble_eq_true rfl, Nat.le_of_ble_eq_true rfl, q⟩
set_option maxRecDepth 100000 in
theorem go_X9_turns_25 {nc : Nat} {C : tf_C} {Q : tf_Q} {h : LH} (hn : 297 ≤ nc) {x1 : Int32} {y0 : Int32} (q : C 45 [.ref (270), .int (y0)] h (fun r g => lx_X9_turns nc C Q 31 [.ref (270), .int (x1), .int (y0), tf_z] (r :: []) g)) : lx_X9_turns nc C Q 25 [.ref (270), .int (x1), tf_z, tf_z] [.int (y0)] h := by
  refine tf_LW_go ?_
  exact ⟨Nat.le_of_ble_eq_true rfl, Nat.le_of_ble_eq_true rfl, q⟩
set_option maxRecDepth 100000 in
theorem go_X9_turns_31 {nc : Nat} {C : tf_C} {Q : tf_Q} {h : LH} (hn : 297 ≤ nc) {x1 : Int32} {x2 : Int32} {y0 : Int32} (q : C 46 [.ref (270), .int (x2)] h (fun r g => lx_X9_turns nc C Q 37 [.ref (270), .int (x1), .int (x2), .int (y0)] [] g)) : lx_X9_turns nc C Q 31 [.ref (270), .int (x1), .int (x2), tf_z] [.int (y0)] h := by
  refine tf_LW_go ?_
  exact ⟨Nat.le_of_ble_eq_true rfl, Nat.le_of_ble_eq_true rfl, q⟩
set_option maxRecDepth 100000 in
theorem go_X9_turns_37 {nc : Nat} {C : tf_C} {Q : tf_Q} {h : LH} (hn : 297 ≤ nc) {x1 : Int32} {x2 : Int32} {x3 : Int32} (q : (x3 = x1 → C 3 [.ref (270), .int (x1), .int (5)] h (fun r g => lx_X9_turns nc C Q 51 [.ref (270), .int (x1), .int (x2), .int (x3)] (r :: [.int (5), .int (x1), .ref (270)]) g)) ∧ (¬ x3 = x1 → lx_X9_turns nc C Q 65 [.ref (270), .int (x1), .int (x2), .int (x3)] [] h)) : lx_X9_turns nc C Q 37 [.ref (270), .int (x1), .int (x2), .int (x3)] [] h := by
  refine tf_LW_go ?_
  exact ⟨fun c1 => ⟨Nat.le_of_ble_eq_true rfl, Nat.le_of_ble_eq_true rfl, (q.1 c1)⟩, q.2⟩
set_option maxRecDepth 100000 in
theorem go_X9_turns_51 {nc : Nat} {C : tf_C} {Q : tf_Q} {h : LH} (hn : 297 ≤ nc) {x1 : Int32} {x2 : Int32} {x3 : Int32} {y1 : Int32} {y2 : Int32} {y3 : Int32} (q : (y3 = (0 : Int32) → lx_X9_turns nc C Q 59 [.ref (270), .int (x1), .int (x2), .int (x3)] [.int (1), .int (y2), .int (y1), .ref (270)] h) ∧ (¬ y3 = (0 : Int32) → lx_X9_turns nc C Q 58 [.ref (270), .int (x1), .int (x2), .int (x3)] [.int (y2), .int (y1), .ref (270)] h)) : lx_X9_turns nc C Q 51 [.ref (270), .int (x1), .int (x2), .int (x3)] [.int (y3), .int (y2), .int (y1), .ref (270)] h := by
  refine tf_LW_go ?_
  exact ⟨fun c1 => (q.1 c1), q.2⟩
set_option maxRecDepth 100000 in
theorem go_X9_turns_58 {nc : Nat} {C : tf_C} {Q : tf_Q} {h : LH} (hn : 297 ≤ nc) {x1 : Int32} {x2 : Int32} {x3 : Int32} {y1 : Int32} {y2 : Int32} (q : lx_X9_turns nc C Q 59 [.ref (270), .int (x1), .int (x2), .int (x3)] [.int (0), .int (y2), .int (y1), .ref (270)] h) : lx_X9_turns nc C Q 58 [.ref (270), .int (x1), .int (x2), .int (x3)] [.int (y2), .int (y1), .ref (270)] h := by
  refine tf_LW_go ?_
  exact q
set_option maxRecDepth 100000 in
theorem go_X9_turns_59 {nc : Nat} {C : tf_C} {Q : tf_Q} {h : LH} (hn : 297 ≤ nc) {x1 : Int32} {x2 : Int32} {x3 : Int32} {y1 : Int32} {y2 : Int32} {y3 : Int32} (q : C 4 [.ref (270), .int (y1), .int (y2), .int (y3)] h (fun r g => lx_X9_turns nc C Q 62 [.ref (270), .int (x1), .int (x2), .int (x3)] [] g)) : lx_X9_turns nc C Q 59 [.ref (270), .int (x1), .int (x2), .int (x3)] [.int (y3), .int (y2), .int (y1), .ref (270)] h := by
  refine tf_LW_go ?_
  exact ⟨Nat.le_of_ble_eq_true rfl, Nat.le_of_ble_eq_true rfl, q⟩
set_option maxRecDepth 100000 in
theorem go_X9_turns_62 {nc : Nat} {C : tf_C} {Q : tf_Q} {h : LH} (hn : 297 ≤ nc) {x1 : Int32} {x2 : Int32} {x3 : Int32} (q : lx_X9_turns nc C Q 77 [.ref (270), .int (x1), .int (x2), .int (x3)] [] h) : lx_X9_turns nc C Q 62 [.ref (270), .int (x1), .int (x2), .int (x3)] [] h := by
  refine tf_LW_go ?_
  exact q
set_option maxRecDepth 100000 in
theorem go_X9_turns_65 {nc : Nat} {C : tf_C} {Q : tf_Q} {h : LH} (hn : 297 ≤ nc) {x1 : Int32} {x2 : Int32} {x3 : Int32} (q : C 4 [.ref (270), .int (x1), .int (5), .int (2)] h (fun r g => lx_X9_turns nc C Q 72 [.ref (270), .int (x1), .int (x2), .int (x3)] [] g)) : lx_X9_turns nc C Q 65 [.ref (270), .int (x1), .int (x2), .int (x3)] [] h := by
  refine tf_LW_go ?_
  exact ⟨Nat.le_of_ble_eq_true rfl, Nat.le_of_ble_eq_true rfl, q⟩
set_option maxRecDepth 100000 in
theorem go_X9_turns_72 {nc : Nat} {C : tf_C} {Q : tf_Q} {h : LH} (hn : 297 ≤ nc) {x1 : Int32} {x2 : Int32} {x3 : Int32} (q : C 47 [.ref (270), .int (x3)] h (fun r g => lx_X9_turns nc C Q 77 [.ref (270), .int (x1), .int (x2), .int (x3)] [] g)) : lx_X9_turns nc C Q 72 [.ref (270), .int (x1), .int (x2), .int (x3)] [] h := by
  refine tf_LW_go ?_
  exact ⟨Nat.le_of_ble_eq_true rfl, Nat.le_of_ble_eq_true rfl, q⟩
set_option maxRecDepth 100000 in
theorem go_X9_turns_77 {nc : Nat} {C : tf_C} {Q : tf_Q} {h : LH} (hn : 297 ≤ nc) {x1 : Int32} {x2 : Int32} {x3 : Int32} (q : C 48 [.ref (270), .int (x1), .int (x3), .int (x2)] h (fun r g => lx_X9_turns nc C Q 84 [.ref (270), .int (x1), .int (x2), .int (x3)] [] g)) : lx_X9_turns nc C Q 77 [.ref (270), .int (x1), .int (x2), .int (x3)] [] h := by
  refine tf_LW_go ?_
  exact ⟨Nat.le_of_ble_eq_true rfl, Nat.le_of_ble_eq_true rfl, q⟩
set_option maxRecDepth 100000 in
theorem go_X9_turns_84 {nc : Nat} {C : tf_C} {Q : tf_Q} {h : LH} (hn : 297 ≤ nc) {x1 : Int32} {x2 : Int32} {x3 : Int32} (q : Q (.int (x1)) h) : lx_X9_turns nc C Q 84 [.ref (270), .int (x1), .int (x2), .int (x3)] [] h := by
  refine tf_LW_go ?_
  exact ⟨(by first | trivial | rfl), q⟩
abbrev lx_X9_pivotsTill (nc : Nat) (C : tf_C) (Q : tf_Q) : tf_X := tf_LW nc C (tf_F 7) (tf_M 7) (tf_I 7) (tf_Eh 50) 1 tb_X9_pivotsTill Q
set_option maxRecDepth 100000 in
theorem go_X9_pivotsTill_0 {nc : Nat} {C : tf_C} {Q : tf_Q} {h : LH} (hn : 297 ≤ nc) {x1 : Int32} (q : lx_X9_pivotsTill nc C Q 2 [.ref (270), .int (x1), .int (0)] [] h) : lx_X9_pivotsTill nc C Q 0 [.ref (270), .int (x1), tf_z] [] h := by
  refine tf_LW_go ?_
  exact q
theorem en_X9_pivotsTill {nc d : Nat} {Q : tf_Q} {h : LH} (hn : 297 ≤ nc) {x1 : Int32} (q : lx_X9_pivotsTill nc (tf_Cd nc d) Q 0 [.ref (270), .int (x1), tf_z] [] h) : tf_Cd nc (d + 1) 50 [.ref (270), .int (x1)] h Q := by
  exact ⟨⟨Nat.le_of_ble_eq_true rfl, Or.inr ⟨rfl, (show 270 < nc by omega)⟩⟩, q⟩
set_option maxRecDepth 100000 in
theorem go_X9_pivotsTill_2 {nc : Nat} {C : tf_C} {Q : tf_Q} {h : LH} (hn : 297 ≤ nc) {x1 : Int32} {x2 : Int32} (q : (x1 ≤ x2 → lx_X9_pivotsTill nc C Q 21 [.ref (270), .int (x1), .int (x2)] [] h) ∧ (¬ x1 ≤ x2 → C 49 [.ref (270)] h (fun r g => lx_X9_pivotsTill nc C Q 11 [.ref (270), .int (x1), .int (x2)] (r :: []) g))) : lx_X9_pivotsTill nc C Q 2 [.ref (270), .int (x1), .int (x2)] [] h := by
  refine tf_LW_go ?_
  exact ⟨q.1, fun c1 => ⟨Nat.le_of_ble_eq_true rfl, Nat.le_of_ble_eq_true rfl, (q.2 c1)⟩⟩
set_option maxRecDepth 100000 in
theorem go_X9_pivotsTill_11 {nc : Nat} {C : tf_C} {Q : tf_Q} {h : LH} (hn : 297 ≤ nc) {x1 : Int32} {x2 : Int32} {y0 : Int32} (q : (y0 = ((-1) : Int32) → lx_X9_pivotsTill nc C Q 21 [.ref (270), .int (x1), .int (x2)] [] h) ∧ (¬ y0 = ((-1) : Int32) → lx_X9_pivotsTill nc C Q 2 [.ref (270), .int (x1), .int (x2 + 1)] [] h)) : lx_X9_pivotsTill nc C Q 11 [.ref (270), .int (x1), .int (x2)] [.int (y0)] h := by
  refine tf_LW_go ?_
  exact ⟨q.1, fun c1 => (q.2 c1)⟩
set_option maxRecDepth 100000 in
theorem go_X9_pivotsTill_21 {nc : Nat} {C : tf_C} {Q : tf_Q} {h : LH} (hn : 297 ≤ nc) {x1 : Int32} {x2 : Int32} (q : Q (.int (x2)) h) : lx_X9_pivotsTill nc C Q 21 [.ref (270), .int (x1), .int (x2)] [] h := by
  refine tf_LW_go ?_
  exact ⟨(by first | trivial | rfl), q⟩
abbrev lx_X9_begins (nc : Nat) (C : tf_C) (Q : tf_Q) : tf_X := tf_LW nc C (tf_F 7) (tf_M 7) (tf_I 7) (tf_Eh 51) 0 tb_X9_begins Q
set_option maxRecDepth 100000 in
theorem go_X9_begins_0 {nc : Nat} {C : tf_C} {Q : tf_Q} {h : LH} (hn : 297 ≤ nc) {x1 : Int32} (q : lx_X9_begins nc C Q 2 [.ref (270), .int (x1), .int (0), tf_z, tf_z] [] h) : lx_X9_begins nc C Q 0 [.ref (270), .int (x1), tf_z, tf_z, tf_z] [] h := by
  refine tf_LW_go ?_
  exact q
theorem en_X9_begins {nc d : Nat} {Q : tf_Q} {h : LH} (hn : 297 ≤ nc) {x1 : Int32} (q : lx_X9_begins nc (tf_Cd nc d) Q 0 [.ref (270), .int (x1), tf_z, tf_z, tf_z] [] h) : tf_Cd nc (d + 1) 51 [.ref (270), .int (x1)] h Q := by
  exact ⟨⟨Nat.le_of_ble_eq_true rfl, Or.inr ⟨rfl, (show 270 < nc by omega)⟩⟩, q⟩
set_option maxRecDepth 100000 in
theorem go_X9_begins_2 {nc : Nat} {C : tf_C} {Q : tf_Q} {h : LH} (hn : 297 ≤ nc) {x1 : Int32} {x2 : Int32} {x3 : Value} (q : ((h.1 271 (1 : Int32).toNatClampNeg) ≤ x2 → lx_X9_begins nc C Q 99 [.ref (270), .int (x1), .int (x2), x3, tf_z] [] h) ∧ (¬ (h.1 271 (1 : Int32).toNatClampNeg) ≤ x2 → (x1 = (0 : Int32) → lx_X9_begins nc C Q 56 [.ref (270), .int (x1), .int (x2), x3, tf_z] [] h) ∧ (¬ x1 = (0 : Int32) → C 3 [.ref (270), .int (x2), .int (6)] h (fun r g => lx_X9_begins nc C Q 23 [.ref (270), .int (x1), .int (x2), x3, tf_z] (r :: []) g)))) : lx_X9_begins nc C Q 2 [.ref (270), .int (x1), .int (x2), x3, tf_z] [] h := by
  refine tf_LW_go ?_
  exact ⟨⟨(by first | rfl | trivial), (show 270 < nc by omega)⟩, ⟨⟨(by first | rfl | trivial), (show 271 < nc by omega), (vp_in_iff.mpr (by decide))⟩, ⟨q.1, fun c2 => ⟨(q.2 c2).1, fun c1 => ⟨Nat.le_of_ble_eq_true rfl, Nat.le_of_ble_eq_true rfl, ((q.2 c2).2 c1)⟩⟩⟩⟩⟩
set_option maxRecDepth 100000 in
theorem go_X9_begins_23 {nc : Nat} {C : tf_C} {Q : tf_Q} {h : LH} (hn : 297 ≤ nc) {x1 : Int32} {x2 : Int32} {x3 : Value} {y0 : Int32} (q : (y0 = (0 : Int32) → C 3 [.ref (270), .int (x2), .int (2)] h (fun r g => lx_X9_begins nc C Q 32 [.ref (270), .int (x1), .int (x2), x3, tf_z] (r :: []) g)) ∧ (¬ y0 = (0 : Int32) → lx_X9_begins nc C Q 56 [.ref (270), .int (x1), .int (x2), x3, tf_z] [] h)) : lx_X9_begins nc C Q 23 [.ref (270), .int (x1), .int (x2), x3, tf_z] [.int (y0)] h := by
  refine tf_LW_go ?_
  exact ⟨fun c1 => ⟨Nat.le_of_ble_eq_true rfl, Nat.le_of_ble_eq_true rfl, (q.1 c1)⟩, q.2⟩
set_option maxRecDepth 100000 in
theorem go_X9_begins_32 {nc : Nat} {C : tf_C} {Q : tf_Q} {h : LH} (hn : 297 ≤ nc) {x1 : Int32} {x2 : Int32} {x3 : Value} {y0 : Int32} (q : (y0 ≤ (0 : Int32) → lx_X9_begins nc C Q 56 [.ref (270), .int (x1), .int (x2), x3, tf_z] [] h) ∧ (¬ y0 ≤ (0 : Int32) → C 3 [.ref (270), .int (x2), .int (4)] h (fun r g => lx_X9_begins nc C Q 42 [.ref (270), .int (x1), .int (x2), x3, tf_z] (r :: [.int (2)]) g))) : lx_X9_begins nc C Q 32 [.ref (270), .int (x1), .int (x2), x3, tf_z] [.int (y0)] h := by
  refine tf_LW_go ?_
  exact ⟨q.1, fun c1 => ⟨Nat.le_of_ble_eq_true rfl, Nat.le_of_ble_eq_true rfl, (q.2 c1)⟩⟩
set_option maxRecDepth 100000 in
theorem go_X9_begins_42 {nc : Nat} {C : tf_C} {Q : tf_Q} {h : LH} (hn : 297 ≤ nc) {x1 : Int32} {x2 : Int32} {x3 : Value} {y0 : Int32} {y1 : Int32} (q : C 3 [.ref (270), .int (x2), .int (2)] h (fun r g => lx_X9_begins nc C Q 49 [.ref (270), .int (x1), .int (x2), x3, tf_z] (r :: [.int (y0 * y1)]) g)) : lx_X9_begins nc C Q 42 [.ref (270), .int (x1), .int (x2), x3, tf_z] [.int (y1), .int (y0)] h := by
  refine tf_LW_go ?_
  exact ⟨Nat.le_of_ble_eq_true rfl, Nat.le_of_ble_eq_true rfl, q⟩
set_option maxRecDepth 100000 in
theorem go_X9_begins_49 {nc : Nat} {C : tf_C} {Q : tf_Q} {h : LH} (hn : 297 ≤ nc) {x1 : Int32} {x2 : Int32} {x3 : Value} {y0 : Int32} {y1 : Int32} (q : (y0 < y1 → lx_X9_begins nc C Q 56 [.ref (270), .int (x1), .int (x2), x3, tf_z] [] h) ∧ (¬ y0 < y1 → lx_X9_begins nc C Q 57 [.ref (270), .int (x1), .int (x2), x3, tf_z] [.int (1)] h)) : lx_X9_begins nc C Q 49 [.ref (270), .int (x1), .int (x2), x3, tf_z] [.int (y1), .int (y0)] h := by
  refine tf_LW_go ?_
  exact ⟨q.1, fun c1 => (q.2 c1)⟩
set_option maxRecDepth 100000 in
theorem go_X9_begins_56 {nc : Nat} {C : tf_C} {Q : tf_Q} {h : LH} (hn : 297 ≤ nc) {x1 : Int32} {x2 : Int32} {x3 : Value} (q : lx_X9_begins nc C Q 57 [.ref (270), .int (x1), .int (x2), x3, tf_z] [.int (0)] h) : lx_X9_begins nc C Q 56 [.ref (270), .int (x1), .int (x2), x3, tf_z] [] h := by
  refine tf_LW_go ?_
  exact q
set_option maxRecDepth 100000 in
theorem go_X9_begins_57 {nc : Nat} {C : tf_C} {Q : tf_Q} {h : LH} (hn : 297 ≤ nc) {x1 : Int32} {x2 : Int32} {x3 : Value} {y0 : Int32} (q : (y0 = (0 : Int32) → lx_X9_begins nc C Q 69 [.ref (270), .int (x1), .int (x2), .int (y0), tf_z] [.int (5), .int (x2), .ref (270)] h) ∧ (¬ y0 = (0 : Int32) → lx_X9_begins nc C Q 70 [.ref (270), .int (x1), .int (x2), .int (y0), tf_z] [.int (1), .int (5), .int (x2), .ref (270)] h)) : lx_X9_begins nc C Q 57 [.ref (270), .int (x1), .int (x2), x3, tf_z] [.int (y0)] h := by
  refine tf_LW_go ?_
  exact ⟨q.1, fun c1 => (q.2 c1)⟩
set_option maxRecDepth 100000 in
theorem go_X9_begins_69 {nc : Nat} {C : tf_C} {Q : tf_Q} {h : LH} (hn : 297 ≤ nc) {x1 : Int32} {x2 : Int32} {x3 : Int32} {y1 : Int32} {y2 : Int32} (q : lx_X9_begins nc C Q 70 [.ref (270), .int (x1), .int (x2), .int (x3), tf_z] [.int (0), .int (y2), .int (y1), .ref (270)] h) : lx_X9_begins nc C Q 69 [.ref (270), .int (x1), .int (x2), .int (x3), tf_z] [.int (y2), .int (y1), .ref (270)] h := by
  refine tf_LW_go ?_
  exact q
set_option maxRecDepth 100000 in
theorem go_X9_begins_70 {nc : Nat} {C : tf_C} {Q : tf_Q} {h : LH} (hn : 297 ≤ nc) {x1 : Int32} {x2 : Int32} {x3 : Int32} {y1 : Int32} {y2 : Int32} {y3 : Int32} (q : C 4 [.ref (270), .int (y1), .int (y2), .int (y3)] h (fun r g => lx_X9_begins nc C Q 73 [.ref (270), .int (x1), .int (x2), .int (x3), tf_z] [] g)) : lx_X9_begins nc C Q 70 [.ref (270), .int (x1), .int (x2), .int (x3), tf_z] [.int (y3), .int (y2), .int (y1), .ref (270)] h := by
  refine tf_LW_go ?_
  exact ⟨Nat.le_of_ble_eq_true rfl, Nat.le_of_ble_eq_true rfl, q⟩
set_option maxRecDepth 100000 in
theorem go_X9_begins_73 {nc : Nat} {C : tf_C} {Q : tf_Q} {h : LH} (hn : 297 ≤ nc) {x1 : Int32} {x2 : Int32} {x3 : Int32} (q : (x3 = (0 : Int32) → lx_X9_begins nc C Q 89 [.ref (270), .int (x1), .int (x2), .int (x3), tf_z] [.int (4), .int (x2), .ref (270)] h) ∧ (¬ x3 = (0 : Int32) → C 3 [.ref (270), .int (x2), .int (2)] h (fun r g => lx_X9_begins nc C Q 86 [.ref (270), .int (x1), .int (x2), .int (x3), tf_z] (r :: [.int (4), .int (x2), .ref (270)]) g))) : lx_X9_begins nc C Q 73 [.ref (270), .int (x1), .int (x2), .int (x3), tf_z] [] h := by
  refine tf_LW_go ?_
  exact ⟨q.1, fun c1 => ⟨Nat.le_of_ble_eq_true rfl, Nat.le_of_ble_eq_true rfl, (q.2 c1)⟩⟩
set_option maxRecDepth 100000 in
theorem go_X9_begins_86 {nc : Nat} {C : tf_C} {Q : tf_Q} {h : LH} (hn : 297 ≤ nc) {x1 : Int32} {x2 : Int32} {x3 : Int32} {y1 : Int32} {y2 : Int32} {y3 : Int32} (q : lx_X9_begins nc C Q 90 [.ref (270), .int (x1), .int (x2), .int (x3), tf_z] [.int (y3), .int (y2), .int (y1), .ref (270)] h) : lx_X9_begins nc C Q 86 [.ref (270), .int (x1), .int (x2), .int (x3), tf_z] [.int (y3), .int (y2), .int (y1), .ref (270)] h := by
  refine tf_LW_go ?_
  exact q
set_option maxRecDepth 100000 in
theorem go_X9_begins_89 {nc : Nat} {C : tf_C} {Q : tf_Q} {h : LH} (hn : 297 ≤ nc) {x1 : Int32} {x2 : Int32} {x3 : Int32} {y1 : Int32} {y2 : Int32} (q : lx_X9_begins nc C Q 90 [.ref (270), .int (x1), .int (x2), .int (x3), tf_z] [.int (0), .int (y2), .int (y1), .ref (270)] h) : lx_X9_begins nc C Q 89 [.ref (270), .int (x1), .int (x2), .int (x3), tf_z] [.int (y2), .int (y1), .ref (270)] h := by
  refine tf_LW_go ?_
  exact q
set_option maxRecDepth 100000 in
theorem go_X9_begins_90 {nc : Nat} {C : tf_C} {Q : tf_Q} {h : LH} (hn : 297 ≤ nc) {x1 : Int32} {x2 : Int32} {x3 : Int32} {y1 : Int32} {y2 : Int32} {y3 : Int32} (q : C 4 [.ref (270), .int (y1), .int (y2), .int (y3)] h (fun r g => lx_X9_begins nc C Q 93 [.ref (270), .int (x1), .int (x2), .int (x3), tf_z] [] g)) : lx_X9_begins nc C Q 90 [.ref (270), .int (x1), .int (x2), .int (x3), tf_z] [.int (y3), .int (y2), .int (y1), .ref (270)] h := by
  refine tf_LW_go ?_
  exact ⟨Nat.le_of_ble_eq_true rfl, Nat.le_of_ble_eq_true rfl, q⟩
set_option maxRecDepth 100000 in
theorem go_X9_begins_93 {nc : Nat} {C : tf_C} {Q : tf_Q} {h : LH} (hn : 297 ≤ nc) {x1 : Int32} {x2 : Int32} {x3 : Int32} (q : lx_X9_begins nc C Q 2 [.ref (270), .int (x1), .int (x2 + 1), .int (x3), tf_z] [] h) : lx_X9_begins nc C Q 93 [.ref (270), .int (x1), .int (x2), .int (x3), tf_z] [] h := by
  refine tf_LW_go ?_
  exact q
set_option maxRecDepth 100000 in
theorem go_X9_begins_99 {nc : Nat} {C : tf_C} {Q : tf_Q} {h : LH} (hn : 297 ≤ nc) {x1 : Int32} {x2 : Int32} {x3 : Value} (q : lx_X9_begins nc C Q 101 [.ref (270), .int (x1), .int (0), x3, tf_z] [] h) : lx_X9_begins nc C Q 99 [.ref (270), .int (x1), .int (x2), x3, tf_z] [] h := by
  refine tf_LW_go ?_
  exact q
set_option maxRecDepth 100000 in
theorem go_X9_begins_101 {nc : Nat} {C : tf_C} {Q : tf_Q} {h : LH} (hn : 297 ≤ nc) {x1 : Int32} {x2 : Int32} {x3 : Value} {x4 : Value} (q : ((h.1 271 (0 : Int32).toNatClampNeg) ≤ x2 → lx_X9_begins nc C Q 241 [.ref (270), .int (x1), .int (x2), x3, x4] [] h) ∧ (¬ (h.1 271 (0 : Int32).toNatClampNeg) ≤ x2 → (vp_in (44 + x2) 865) ∧ lx_X9_begins nc C Q 124 [.ref (270), .int (x1), .int (x2), .int (h.1 271 (44 + x2 : Int32).toNatClampNeg), .int (0)] [] h)) : lx_X9_begins nc C Q 101 [.ref (270), .int (x1), .int (x2), x3, x4] [] h := by
  refine tf_LW_go ?_
  exact ⟨⟨(by first | rfl | trivial), (show 270 < nc by omega)⟩, ⟨⟨(by first | rfl | trivial), (show 271 < nc by omega), (vp_in_iff.mpr (by decide))⟩, ⟨q.1, fun c1 => ⟨⟨(by first | rfl | trivial), (show 270 < nc by omega)⟩, ⟨⟨(by first | rfl | trivial), (show 271 < nc by omega), (q.2 c1).1⟩, (q.2 c1).2⟩⟩⟩⟩⟩
set_option maxRecDepth 100000 in
theorem go_X9_begins_124 {nc : Nat} {C : tf_C} {Q : tf_Q} {h : LH} (hn : 297 ≤ nc) {x1 : Int32} {x2 : Int32} {x3 : Int32} {x4 : Int32} (q : ((h.1 271 (1 : Int32).toNatClampNeg) ≤ x4 → lx_X9_begins nc C Q 188 [.ref (270), .int (x1), .int (x2), .int (x3), .int (x4)] [] h) ∧ (¬ (h.1 271 (1 : Int32).toNatClampNeg) ≤ x4 → C 3 [.ref (270), .int (x4), .int (1)] h (fun r g => lx_X9_begins nc C Q 143 [.ref (270), .int (x1), .int (x2), .int (x3), .int (x4)] (r :: [.int (x3)]) g))) : lx_X9_begins nc C Q 124 [.ref (270), .int (x1), .int (x2), .int (x3), .int (x4)] [] h := by
  refine tf_LW_go ?_
  exact ⟨⟨(by first | rfl | trivial), (show 270 < nc by omega)⟩, ⟨⟨(by first | rfl | trivial), (show 271 < nc by omega), (vp_in_iff.mpr (by decide))⟩, ⟨q.1, fun c1 => ⟨Nat.le_of_ble_eq_true rfl, Nat.le_of_ble_eq_true rfl, (q.2 c1)⟩⟩⟩⟩
set_option maxRecDepth 100000 in
theorem go_X9_begins_143 {nc : Nat} {C : tf_C} {Q : tf_Q} {h : LH} (hn : 297 ≤ nc) {x1 : Int32} {x2 : Int32} {x3 : Int32} {x4 : Int32} {y0 : Int32} {y1 : Int32} (q : (y1 = x2 → C 3 [.ref (270), .int (x4), .int (4)] h (fun r g => lx_X9_begins nc C Q 154 [.ref (270), .int (x1), .int (x2), .int (x3), .int (x4)] (r :: [.int (y0)]) g)) ∧ (¬ y1 = x2 → lx_X9_begins nc C Q 157 [.ref (270), .int (x1), .int (x2), .int (x3), .int (x4)] [.int (y0)] h)) : lx_X9_begins nc C Q 143 [.ref (270), .int (x1), .int (x2), .int (x3), .int (x4)] [.int (y1), .int (y0)] h := by
  refine tf_LW_go ?_
  exact ⟨fun c1 => ⟨Nat.le_of_ble_eq_true rfl, Nat.le_of_ble_eq_true rfl, (q.1 c1)⟩, q.2⟩
set_option maxRecDepth 100000 in
theorem go_X9_begins_154 {nc : Nat} {C : tf_C} {Q : tf_Q} {h : LH} (hn : 297 ≤ nc) {x1 : Int32} {x2 : Int32} {x3 : Int32} {x4 : Int32} {y0 : Int32} {y1 : Int32} (q : lx_X9_begins nc C Q 180 [.ref (270), .int (x1), .int (x2), .int (x3), .int (x4)] [.int (y1), .int (y0)] h) : lx_X9_begins nc C Q 154 [.ref (270), .int (x1), .int (x2), .int (x3), .int (x4)] [.int (y1), .int (y0)] h := by
  refine tf_LW_go ?_
  exact q
set_option maxRecDepth 100000 in
theorem go_X9_begins_157 {nc : Nat} {C : tf_C} {Q : tf_Q} {h : LH} (hn : 297 ≤ nc) {x1 : Int32} {x2 : Int32} {x3 : Int32} {x4 : Int32} {y0 : Int32} (q : C 3 [.ref (270), .int (x4), .int (0)] h (fun r g => lx_X9_begins nc C Q 164 [.ref (270), .int (x1), .int (x2), .int (x3), .int (x4)] (r :: [.int (y0)]) g)) : lx_X9_begins nc C Q 157 [.ref (270), .int (x1), .int (x2), .int (x3), .int (x4)] [.int (y0)] h := by
  refine tf_LW_go ?_
  exact ⟨Nat.le_of_ble_eq_true rfl, Nat.le_of_ble_eq_true rfl, q⟩
set_option maxRecDepth 100000 in
theorem go_X9_begins_164 {nc : Nat} {C : tf_C} {Q : tf_Q} {h : LH} (hn : 297 ≤ nc) {x1 : Int32} {x2 : Int32} {x3 : Int32} {x4 : Int32} {y0 : Int32} {y1 : Int32} (q : (y1 = x2 → C 3 [.ref (270), .int (x4), .int (4)] h (fun r g => lx_X9_begins nc C Q 175 [.ref (270), .int (x1), .int (x2), .int (x3), .int (x4)] (r :: [.int (y0)]) g)) ∧ (¬ y1 = x2 → lx_X9_begins nc C Q 179 [.ref (270), .int (x1), .int (x2), .int (x3), .int (x4)] [.int (y0)] h)) : lx_X9_begins nc C Q 164 [.ref (270), .int (x1), .int (x2), .int (x3), .int (x4)] [.int (y1), .int (y0)] h := by
  refine tf_LW_go ?_
  exact ⟨fun c1 => ⟨Nat.le_of_ble_eq_true rfl, Nat.le_of_ble_eq_true rfl, (q.1 c1)⟩, q.2⟩
set_option maxRecDepth 100000 in
theorem go_X9_begins_175 {nc : Nat} {C : tf_C} {Q : tf_Q} {h : LH} (hn : 297 ≤ nc) {x1 : Int32} {x2 : Int32} {x3 : Int32} {x4 : Int32} {y0 : Int32} {y1 : Int32} (q : lx_X9_begins nc C Q 180 [.ref (270), .int (x1), .int (x2), .int (x3), .int (x4)] [.int (-y1), .int (y0)] h) : lx_X9_begins nc C Q 175 [.ref (270), .int (x1), .int (x2), .int (x3), .int (x4)] [.int (y1), .int (y0)] h := by
  refine tf_LW_go ?_
  exact q
set_option maxRecDepth 100000 in
theorem go_X9_begins_179 {nc : Nat} {C : tf_C} {Q : tf_Q} {h : LH} (hn : 297 ≤ nc) {x1 : Int32} {x2 : Int32} {x3 : Int32} {x4 : Int32} {y0 : Int32} (q : lx_X9_begins nc C Q 180 [.ref (270), .int (x1), .int (x2), .int (x3), .int (x4)] [.int (0), .int (y0)] h) : lx_X9_begins nc C Q 179 [.ref (270), .int (x1), .int (x2), .int (x3), .int (x4)] [.int (y0)] h := by
  refine tf_LW_go ?_
  exact q
set_option maxRecDepth 100000 in
theorem go_X9_begins_180 {nc : Nat} {C : tf_C} {Q : tf_Q} {h : LH} (hn : 297 ≤ nc) {x1 : Int32} {x2 : Int32} {x3 : Int32} {x4 : Int32} {y0 : Int32} {y1 : Int32} (q : lx_X9_begins nc C Q 124 [.ref (270), .int (x1), .int (x2), .int (y0 + y1), .int (x4 + 1)] [] h) : lx_X9_begins nc C Q 180 [.ref (270), .int (x1), .int (x2), .int (x3), .int (x4)] [.int (y1), .int (y0)] h := by
  refine tf_LW_go ?_
  exact q
set_option maxRecDepth 100000 in
theorem go_X9_begins_188 {nc : Nat} {C : tf_C} {Q : tf_Q} {h : LH} (hn : 297 ≤ nc) {x1 : Int32} {x2 : Int32} {x3 : Int32} {x4 : Int32} (q : (vp_in (51 + x2) 865) ∧ (x3 < (0 : Int32) → lx_X9_begins nc C Q 214 [.ref (270), .int (x1), .int (x2), .int (x3), .int (x4)] [.int (58 + x2), .ref (271)] (tf_up h.1 271 (51 + x2 : Int32).toNatClampNeg 1, h.2)) ∧ (¬ x3 < (0 : Int32) → lx_X9_begins nc C Q 215 [.ref (270), .int (x1), .int (x2), .int (x3), .int (x4)] [.int (1), .int (58 + x2), .ref (271)] (tf_up h.1 271 (51 + x2 : Int32).toNatClampNeg 1, h.2))) : lx_X9_begins nc C Q 188 [.ref (270), .int (x1), .int (x2), .int (x3), .int (x4)] [] h := by
  refine tf_LW_go ?_
  exact ⟨⟨(by first | rfl | trivial), (show 270 < nc by omega)⟩, ⟨⟨(by first | rfl | trivial), (show 271 < nc by omega), q.1⟩, ⟨⟨(by first | rfl | trivial), (show 270 < nc by omega)⟩, ⟨q.2.1, fun c1 => (q.2.2 c1)⟩⟩⟩⟩
set_option maxRecDepth 100000 in
theorem go_X9_begins_214 {nc : Nat} {C : tf_C} {Q : tf_Q} {h : LH} (hn : 297 ≤ nc) {x1 : Int32} {x2 : Int32} {x3 : Int32} {x4 : Int32} {y0 ny0 : Nat} {y1 : Int32} (Ky0_0 : tf_K y0 = 8) (Ny0_0 : tf_N y0 = ny0) (By0 : y0 < nc) (q : lx_X9_begins nc C Q 215 [.ref (270), .int (x1), .int (x2), .int (x3), .int (x4)] [.int ((-1)), .int (y1), .ref (y0)] h) : lx_X9_begins nc C Q 214 [.ref (270), .int (x1), .int (x2), .int (x3), .int (x4)] [.int (y1), .ref (y0)] h := by
  refine tf_LW_go ?_
  show lx_X9_begins nc C Q 215 [.ref (270), .int (x1), .int (x2), .int (x3), .int (x4)] [.int ((-1)), .int (y1), .ref (y0)] h
  try simp only [Ny0_0]
  exact q
set_option maxRecDepth 100000 in
theorem go_X9_begins_215 {nc : Nat} {C : tf_C} {Q : tf_Q} {h : LH} (hn : 297 ≤ nc) {x1 : Int32} {x2 : Int32} {x3 : Int32} {x4 : Int32} {y0 ny0 : Nat} {y1 : Int32} {y2 : Int32} (Ky0_0 : tf_K y0 = 8) (Ny0_0 : tf_N y0 = ny0) (By0 : y0 < nc) (q : (vp_in y1 ny0) ∧ (x3 < (0 : Int32) → lx_X9_begins nc C Q 232 [.ref (270), .int (x1), .int (x2), .int (x3), .int (x4)] [.int (65 + x2), .ref (271)] (tf_up h.1 y0 (y1 : Int32).toNatClampNeg y2, h.2)) ∧ (¬ x3 < (0 : Int32) → lx_X9_begins nc C Q 234 [.ref (270), .int (x1), .int (x2), .int (x3), .int (x4)] [.int (x3), .int (65 + x2), .ref (271)] (tf_up h.1 y0 (y1 : Int32).toNatClampNeg y2, h.2))) : lx_X9_begins nc C Q 215 [.ref (270), .int (x1), .int (x2), .int (x3), .int (x4)] [.int (y2), .int (y1), .ref (y0)] h := by
  refine tf_LW_go ?_
  show (tf_K y0 = 8 ∧ y0 < nc ∧ vp_in y1 (tf_N y0)) ∧ (tf_K 270 = 7 ∧ 270 < nc) ∧ (x3 < (0 : Int32) → lx_X9_begins nc C Q 232 [.ref (270), .int (x1), .int (x2), .int (x3), .int (x4)] [.int (65 + x2), .ref (271)] (tf_up h.1 y0 (y1 : Int32).toNatClampNeg y2, h.2)) ∧ (¬ x3 < (0 : Int32) → lx_X9_begins nc C Q 234 [.ref (270), .int (x1), .int (x2), .int (x3), .int (x4)] [.int (x3), .int (65 + x2), .ref (271)] (tf_up h.1 y0 (y1 : Int32).toNatClampNeg y2, h.2))
  try simp only [Ny0_0]
  exact ⟨⟨Ky0_0, (show y0 < nc by omega), q.1⟩, ⟨⟨(by first | rfl | trivial), (show 270 < nc by omega)⟩, ⟨q.2.1, fun c1 => (q.2.2 c1)⟩⟩⟩
set_option maxRecDepth 100000 in
theorem go_X9_begins_232 {nc : Nat} {C : tf_C} {Q : tf_Q} {h : LH} (hn : 297 ≤ nc) {x1 : Int32} {x2 : Int32} {x3 : Int32} {x4 : Int32} {y0 ny0 : Nat} {y1 : Int32} (Ky0_0 : tf_K y0 = 8) (Ny0_0 : tf_N y0 = ny0) (By0 : y0 < nc) (q : lx_X9_begins nc C Q 234 [.ref (270), .int (x1), .int (x2), .int (x3), .int (x4)] [.int (-x3), .int (y1), .ref (y0)] h) : lx_X9_begins nc C Q 232 [.ref (270), .int (x1), .int (x2), .int (x3), .int (x4)] [.int (y1), .ref (y0)] h := by
  refine tf_LW_go ?_
  show lx_X9_begins nc C Q 234 [.ref (270), .int (x1), .int (x2), .int (x3), .int (x4)] [.int (-x3), .int (y1), .ref (y0)] h
  try simp only [Ny0_0]
  exact q
set_option maxRecDepth 100000 in
theorem go_X9_begins_234 {nc : Nat} {C : tf_C} {Q : tf_Q} {h : LH} (hn : 297 ≤ nc) {x1 : Int32} {x2 : Int32} {x3 : Int32} {x4 : Int32} {y0 ny0 : Nat} {y1 : Int32} {y2 : Int32} (Ky0_0 : tf_K y0 = 8) (Ny0_0 : tf_N y0 = ny0) (By0 : y0 < nc) (q : (vp_in y1 ny0) ∧ lx_X9_begins nc C Q 101 [.ref (270), .int (x1), .int (x2 + 1), .int (x3), .int (x4)] [] (tf_up h.1 y0 (y1 : Int32).toNatClampNeg y2, h.2)) : lx_X9_begins nc C Q 234 [.ref (270), .int (x1), .int (x2), .int (x3), .int (x4)] [.int (y2), .int (y1), .ref (y0)] h := by
  refine tf_LW_go ?_
  show (tf_K y0 = 8 ∧ y0 < nc ∧ vp_in y1 (tf_N y0)) ∧ lx_X9_begins nc C Q 101 [.ref (270), .int (x1), .int (x2 + 1), .int (x3), .int (x4)] [] (tf_up h.1 y0 (y1 : Int32).toNatClampNeg y2, h.2)
  try simp only [Ny0_0]
  exact ⟨⟨Ky0_0, (show y0 < nc by omega), q.1⟩, q.2⟩
set_option maxRecDepth 100000 in
theorem go_X9_begins_241 {nc : Nat} {C : tf_C} {Q : tf_Q} {h : LH} (hn : 297 ≤ nc) {x1 : Int32} {x2 : Int32} {x3 : Value} {x4 : Value} (q : Q tf_z h) : lx_X9_begins nc C Q 241 [.ref (270), .int (x1), .int (x2), x3, x4] [] h := by
  refine tf_LW_go ?_
  exact ⟨(by first | rfl | trivial), q⟩
abbrev lx_X9_beginsAgain (nc : Nat) (C : tf_C) (Q : tf_Q) : tf_X := tf_LW nc C (tf_F 7) (tf_M 7) (tf_I 7) (tf_Eh 52) 0 tb_X9_beginsAgain Q
set_option maxRecDepth 100000 in
theorem go_X9_beginsAgain_0 {nc : Nat} {C : tf_C} {Q : tf_Q} {h : LH} (hn : 297 ≤ nc) {x1 : Int32} (q : C 51 [.ref (270), .int (x1)] h (fun r g => lx_X9_beginsAgain nc C Q 5 [.ref (270), .int (x1)] [] g)) : lx_X9_beginsAgain nc C Q 0 [.ref (270), .int (x1)] [] h := by
  refine tf_LW_go ?_
  exact ⟨Nat.le_of_ble_eq_true rfl, Nat.le_of_ble_eq_true rfl, q⟩
theorem en_X9_beginsAgain {nc d : Nat} {Q : tf_Q} {h : LH} (hn : 297 ≤ nc) {x1 : Int32} (q : lx_X9_beginsAgain nc (tf_Cd nc d) Q 0 [.ref (270), .int (x1)] [] h) : tf_Cd nc (d + 1) 52 [.ref (270), .int (x1)] h Q := by
  exact ⟨⟨Nat.le_of_ble_eq_true rfl, Or.inr ⟨rfl, (show 270 < nc by omega)⟩⟩, q⟩
set_option maxRecDepth 100000 in
theorem go_X9_beginsAgain_5 {nc : Nat} {C : tf_C} {Q : tf_Q} {h : LH} (hn : 297 ≤ nc) {x1 : Int32} (q : Q tf_z (tf_up h.1 271 (5 : Int32).toNatClampNeg ((h.1 271 (5 : Int32).toNatClampNeg) + 1), h.2)) : lx_X9_beginsAgain nc C Q 5 [.ref (270), .int (x1)] [] h := by
  refine tf_LW_go ?_
  exact ⟨⟨(by first | rfl | trivial), (show 270 < nc by omega)⟩, ⟨⟨(by first | rfl | trivial), (show 271 < nc by omega), (vp_in_iff.mpr (by decide))⟩, ⟨⟨(by first | rfl | trivial), (show 271 < nc by omega), (vp_in_iff.mpr (by decide))⟩, ⟨(by first | rfl | trivial), q⟩⟩⟩⟩
abbrev lx_X9_keeps (nc : Nat) (C : tf_C) (Q : tf_Q) : tf_X := tf_LW nc C (tf_F 7) (tf_M 7) (tf_I 7) (tf_Eh 53) 0 tb_X9_keeps Q
set_option maxRecDepth 100000 in
theorem go_X9_keeps_0 {nc : Nat} {C : tf_C} {Q : tf_Q} {h : LH} (hn : 297 ≤ nc) {x1 : Int32} (q : ((h.1 270 5) = (10 : Int32) → lx_X9_keeps nc C Q 11 [.ref (270), .int (x1), .int (0)] [] h) ∧ (¬ (h.1 270 5) = (10 : Int32) → lx_X9_keeps nc C Q 50 [.ref (270), .int (x1), tf_z] [] h)) : lx_X9_keeps nc C Q 0 [.ref (270), .int (x1), tf_z] [] h := by
  refine tf_LW_go ?_
  exact ⟨⟨(by first | rfl | trivial), (show 270 < nc by omega)⟩, ⟨fun c1 => (q.1 c1), q.2⟩⟩
theorem en_X9_keeps {nc d : Nat} {Q : tf_Q} {h : LH} (hn : 297 ≤ nc) {x1 : Int32} (q : lx_X9_keeps nc (tf_Cd nc d) Q 0 [.ref (270), .int (x1), tf_z] [] h) : tf_Cd nc (d + 1) 53 [.ref (270), .int (x1)] h Q := by
  exact ⟨⟨Nat.le_of_ble_eq_true rfl, Or.inr ⟨rfl, (show 270 < nc by omega)⟩⟩, q⟩
set_option maxRecDepth 100000 in
theorem go_X9_keeps_11 {nc : Nat} {C : tf_C} {Q : tf_Q} {h : LH} (hn : 297 ≤ nc) {x1 : Int32} {x2 : Int32} (q : ((1530 : Int32) ≤ x2 → lx_X9_keeps nc C Q 40 [.ref (270), .int (x1), .int (x2)] [] h) ∧ (¬ (1530 : Int32) ≤ x2 → (vp_in (x2 + 170) 1700) ∧ (vp_in x2 1700) ∧ lx_X9_keeps nc C Q 11 [.ref (270), .int (x1), .int (x2 + 1)] [] (tf_up h.1 274 (x2 : Int32).toNatClampNeg (h.1 274 (x2 + 170 : Int32).toNatClampNeg), h.2))) : lx_X9_keeps nc C Q 11 [.ref (270), .int (x1), .int (x2)] [] h := by
  refine tf_LW_go ?_
  exact ⟨q.1, fun c1 => ⟨⟨(by first | rfl | trivial), (show 270 < nc by omega)⟩, ⟨⟨(by first | rfl | trivial), (show 270 < nc by omega)⟩, ⟨⟨(by first | rfl | trivial), (show 274 < nc by omega), (q.2 c1).1⟩, ⟨⟨(by first | rfl | trivial), (show 274 < nc by omega), (q.2 c1).2.1⟩, (q.2 c1).2.2⟩⟩⟩⟩⟩
set_option maxRecDepth 100000 in
theorem go_X9_keeps_40 {nc : Nat} {C : tf_C} {Q : tf_Q} {h : LH} (hn : 297 ≤ nc) {x1 : Int32} {x2 : Int32} (q : lx_X9_keeps nc C Q 50 [.ref (270), .int (x1), .int (x2)] [] (tf_up h.1 270 5 ((h.1 270 5) - 1), h.2)) : lx_X9_keeps nc C Q 40 [.ref (270), .int (x1), .int (x2)] [] h := by
  refine tf_LW_go ?_
  exact ⟨⟨(by first | rfl | trivial), (show 270 < nc by omega)⟩, ⟨⟨(by first | rfl | trivial), (show 270 < nc by omega), (by first | rfl | trivial)⟩, q⟩⟩
set_option maxRecDepth 100000 in
theorem go_X9_keeps_50 {nc : Nat} {C : tf_C} {Q : tf_Q} {h : LH} (hn : 297 ≤ nc) {x1 : Int32} {x2 : Value} (q : lx_X9_keeps nc C Q 52 [.ref (270), .int (x1), .int (0)] [] h) : lx_X9_keeps nc C Q 50 [.ref (270), .int (x1), x2] [] h := by
  refine tf_LW_go ?_
  exact q
set_option maxRecDepth 100000 in
theorem go_X9_keeps_52 {nc : Nat} {C : tf_C} {Q : tf_Q} {h : LH} (hn : 297 ≤ nc) {x1 : Int32} {x2 : Int32} (q : ((170 : Int32) ≤ x2 → lx_X9_keeps nc C Q 92 [.ref (270), .int (x1), .int (x2)] [] h) ∧ (¬ (170 : Int32) ≤ x2 → (vp_in ((173 * x1) + x2) 865) ∧ (vp_in ((170 * (h.1 270 5)) + x2) 1700) ∧ lx_X9_keeps nc C Q 52 [.ref (270), .int (x1), .int (x2 + 1)] [] (tf_up h.1 274 ((170 * (h.1 270 5)) + x2 : Int32).toNatClampNeg (h.1 271 ((173 * x1) + x2 : Int32).toNatClampNeg), h.2))) : lx_X9_keeps nc C Q 52 [.ref (270), .int (x1), .int (x2)] [] h := by
  refine tf_LW_go ?_
  exact ⟨q.1, fun c1 => ⟨⟨(by first | rfl | trivial), (show 270 < nc by omega)⟩, ⟨⟨(by first | rfl | trivial), (show 270 < nc by omega)⟩, ⟨⟨(by first | rfl | trivial), (show 270 < nc by omega)⟩, ⟨⟨(by first | rfl | trivial), (show 271 < nc by omega), (q.2 c1).1⟩, ⟨⟨(by first | rfl | trivial), (show 274 < nc by omega), (q.2 c1).2.1⟩, (q.2 c1).2.2⟩⟩⟩⟩⟩⟩
set_option maxRecDepth 100000 in
theorem go_X9_keeps_92 {nc : Nat} {C : tf_C} {Q : tf_Q} {h : LH} (hn : 297 ≤ nc) {x1 : Int32} {x2 : Int32} (q : Q tf_z (tf_up h.1 270 5 ((h.1 270 5) + 1), h.2)) : lx_X9_keeps nc C Q 92 [.ref (270), .int (x1), .int (x2)] [] h := by
  refine tf_LW_go ?_
  exact ⟨⟨(by first | rfl | trivial), (show 270 < nc by omega)⟩, ⟨⟨(by first | rfl | trivial), (show 270 < nc by omega), (by first | rfl | trivial)⟩, ⟨(by first | rfl | trivial), q⟩⟩⟩
abbrev lx_X9_pivot (nc : Nat) (C : tf_C) (Q : tf_Q) : tf_X := tf_LW nc C (tf_F 7) (tf_M 7) (tf_I 7) (tf_Eh 54) 1 tb_X9_pivot Q
set_option maxRecDepth 100000 in
theorem go_X9_pivot_0 {nc : Nat} {C : tf_C} {Q : tf_Q} {h : LH} (hn : 297 ≤ nc) (q : C 33 [.ref (270)] (tf_up h.1 270 0 0, h.2) (fun r g => lx_X9_pivot nc C Q 9 [.ref (270)] (r :: []) g)) : lx_X9_pivot nc C Q 0 [.ref (270)] [] h := by
  refine tf_LW_go ?_
  exact ⟨⟨(by first | rfl | trivial), (show 270 < nc by omega), (by first | rfl | trivial)⟩, ⟨Nat.le_of_ble_eq_true rfl, Nat.le_of_ble_eq_true rfl, q⟩⟩
theorem en_X9_pivot {nc d : Nat} {Q : tf_Q} {h : LH} (hn : 297 ≤ nc) (q : lx_X9_pivot nc (tf_Cd nc d) Q 0 [.ref (270)] [] h) : tf_Cd nc (d + 1) 54 [.ref (270)] h Q := by
  exact ⟨⟨Nat.le_of_ble_eq_true rfl, Or.inr ⟨rfl, (show 270 < nc by omega)⟩⟩, q⟩
set_option maxRecDepth 100000 in
theorem go_X9_pivot_9 {nc : Nat} {C : tf_C} {Q : tf_Q} {h : LH} (hn : 297 ≤ nc) {y0 : Int32} (q : (y0 = (0 : Int32) → lx_X9_pivot nc C Q 14 [.ref (270)] [] h) ∧ (¬ y0 = (0 : Int32) → Q (.int ((-1))) h)) : lx_X9_pivot nc C Q 9 [.ref (270)] [.int (y0)] h := by
  refine tf_LW_go ?_
  exact ⟨q.1, fun c1 => ⟨(by first | trivial | rfl), (q.2 c1)⟩⟩
set_option maxRecDepth 100000 in
theorem go_X9_pivot_14 {nc : Nat} {C : tf_C} {Q : tf_Q} {h : LH} (hn : 297 ≤ nc) (q : C 53 [.ref (270), .int (0)] h (fun r g => lx_X9_pivot nc C Q 19 [.ref (270)] [] g)) : lx_X9_pivot nc C Q 14 [.ref (270)] [] h := by
  refine tf_LW_go ?_
  exact ⟨Nat.le_of_ble_eq_true rfl, Nat.le_of_ble_eq_true rfl, q⟩
set_option maxRecDepth 100000 in
theorem go_X9_pivot_19 {nc : Nat} {C : tf_C} {Q : tf_Q} {h : LH} (hn : 297 ≤ nc) (q : C 49 [.ref (270)] h (fun r g => lx_X9_pivot nc C Q 23 [.ref (270)] (r :: []) g)) : lx_X9_pivot nc C Q 19 [.ref (270)] [] h := by
  refine tf_LW_go ?_
  exact ⟨Nat.le_of_ble_eq_true rfl, Nat.le_of_ble_eq_true rfl, q⟩
set_option maxRecDepth 100000 in
theorem go_X9_pivot_23 {nc : Nat} {C : tf_C} {Q : tf_Q} {h : LH} (hn : 297 ≤ nc) {y0 : Int32} (q : Q (.int (y0)) h) : lx_X9_pivot nc C Q 23 [.ref (270)] [.int (y0)] h := by
  refine tf_LW_go ?_
  exact ⟨(by first | trivial | rfl), q⟩
abbrev lx_X9_pivots (nc : Nat) (C : tf_C) (Q : tf_Q) : tf_X := tf_LW nc C (tf_F 7) (tf_M 7) (tf_I 7) (tf_Eh 55) 1 tb_X9_pivots Q
set_option maxRecDepth 100000 in
theorem go_X9_pivots_0 {nc : Nat} {C : tf_C} {Q : tf_Q} {h : LH} (hn : 297 ≤ nc) {x1 : Int32} (q : C 0 [.int (x1), .int (1), .int (60)] (tf_up h.1 270 0 0, h.2) (fun r g => lx_X9_pivots nc C Q 12 [.ref (270), .int (x1)] (r :: []) g)) : lx_X9_pivots nc C Q 0 [.ref (270), .int (x1)] [] h := by
  refine tf_LW_go ?_
  exact ⟨⟨(by first | rfl | trivial), (show 270 < nc by omega), (by first | rfl | trivial)⟩, ⟨Nat.le_of_ble_eq_true rfl, Nat.le_of_ble_eq_true rfl, q⟩⟩
theorem en_X9_pivots {nc d : Nat} {Q : tf_Q} {h : LH} (hn : 297 ≤ nc) {x1 : Int32} (q : lx_X9_pivots nc (tf_Cd nc d) Q 0 [.ref (270), .int (x1)] [] h) : tf_Cd nc (d + 1) 55 [.ref (270), .int (x1)] h Q := by
  exact ⟨⟨Nat.le_of_ble_eq_true rfl, Or.inr ⟨rfl, (show 270 < nc by omega)⟩⟩, q⟩
set_option maxRecDepth 100000 in
theorem go_X9_pivots_12 {nc : Nat} {C : tf_C} {Q : tf_Q} {h : LH} (hn : 297 ≤ nc) {x1 : Int32} {y0 : Int32} (q : (y0 = (0 : Int32) → Q (.int ((-1))) h) ∧ (¬ y0 = (0 : Int32) → lx_X9_pivots nc C Q 17 [.ref (270), .int (x1)] [] h)) : lx_X9_pivots nc C Q 12 [.ref (270), .int (x1)] [.int (y0)] h := by
  refine tf_LW_go ?_
  exact ⟨fun c1 => ⟨(by first | trivial | rfl), (q.1 c1)⟩, q.2⟩
set_option maxRecDepth 100000 in
theorem go_X9_pivots_17 {nc : Nat} {C : tf_C} {Q : tf_Q} {h : LH} (hn : 297 ≤ nc) {x1 : Int32} (q : C 33 [.ref (270)] h (fun r g => lx_X9_pivots nc C Q 21 [.ref (270), .int (x1)] (r :: []) g)) : lx_X9_pivots nc C Q 17 [.ref (270), .int (x1)] [] h := by
  refine tf_LW_go ?_
  exact ⟨Nat.le_of_ble_eq_true rfl, Nat.le_of_ble_eq_true rfl, q⟩
set_option maxRecDepth 100000 in
theorem go_X9_pivots_21 {nc : Nat} {C : tf_C} {Q : tf_Q} {h : LH} (hn : 297 ≤ nc) {x1 : Int32} {y0 : Int32} (q : (y0 = (0 : Int32) → lx_X9_pivots nc C Q 26 [.ref (270), .int (x1)] [] h) ∧ (¬ y0 = (0 : Int32) → Q (.int (0)) h)) : lx_X9_pivots nc C Q 21 [.ref (270), .int (x1)] [.int (y0)] h := by
  refine tf_LW_go ?_
  exact ⟨q.1, fun c1 => ⟨(by first | trivial | rfl), (q.2 c1)⟩⟩
set_option maxRecDepth 100000 in
theorem go_X9_pivots_26 {nc : Nat} {C : tf_C} {Q : tf_Q} {h : LH} (hn : 297 ≤ nc) {x1 : Int32} (q : C 53 [.ref (270), .int (0)] h (fun r g => lx_X9_pivots nc C Q 31 [.ref (270), .int (x1)] [] g)) : lx_X9_pivots nc C Q 26 [.ref (270), .int (x1)] [] h := by
  refine tf_LW_go ?_
  exact ⟨Nat.le_of_ble_eq_true rfl, Nat.le_of_ble_eq_true rfl, q⟩
set_option maxRecDepth 100000 in
theorem go_X9_pivots_31 {nc : Nat} {C : tf_C} {Q : tf_Q} {h : LH} (hn : 297 ≤ nc) {x1 : Int32} (q : C 50 [.ref (270), .int (x1)] h (fun r g => lx_X9_pivots nc C Q 36 [.ref (270), .int (x1)] (r :: []) g)) : lx_X9_pivots nc C Q 31 [.ref (270), .int (x1)] [] h := by
  refine tf_LW_go ?_
  exact ⟨Nat.le_of_ble_eq_true rfl, Nat.le_of_ble_eq_true rfl, q⟩
set_option maxRecDepth 100000 in
theorem go_X9_pivots_36 {nc : Nat} {C : tf_C} {Q : tf_Q} {h : LH} (hn : 297 ≤ nc) {x1 : Int32} {y0 : Int32} (q : Q (.int (y0)) h) : lx_X9_pivots nc C Q 36 [.ref (270), .int (x1)] [.int (y0)] h := by
  refine tf_LW_go ?_
  exact ⟨(by first | trivial | rfl), q⟩
abbrev lx_X9_rule (nc : Nat) (C : tf_C) (Q : tf_Q) : tf_X := tf_LW nc C (tf_F 7) (tf_M 7) (tf_I 7) (tf_Eh 56) 2 tb_X9_rule Q
set_option maxRecDepth 100000 in
theorem go_X9_rule_0 {nc : Nat} {C : tf_C} {Q : tf_Q} {h : LH} (hn : 297 ≤ nc) {x1 : Int32} (q : C 0 [.int (x1), .int (0), .int (2)] (tf_up h.1 270 0 0, h.2) (fun r g => lx_X9_rule nc C Q 11 [.ref (270), .int (x1)] (r :: []) g)) : lx_X9_rule nc C Q 0 [.ref (270), .int (x1)] [] h := by
  refine tf_LW_go ?_
  exact ⟨⟨(by first | rfl | trivial), (show 270 < nc by omega), (by first | rfl | trivial)⟩, ⟨Nat.le_of_ble_eq_true rfl, Nat.le_of_ble_eq_true rfl, q⟩⟩
theorem en_X9_rule {nc d : Nat} {Q : tf_Q} {h : LH} (hn : 297 ≤ nc) {x1 : Int32} (q : lx_X9_rule nc (tf_Cd nc d) Q 0 [.ref (270), .int (x1)] [] h) : tf_Cd nc (d + 1) 56 [.ref (270), .int (x1)] h Q := by
  exact ⟨⟨Nat.le_of_ble_eq_true rfl, Or.inr ⟨rfl, (show 270 < nc by omega)⟩⟩, q⟩
set_option maxRecDepth 100000 in
theorem go_X9_rule_11 {nc : Nat} {C : tf_C} {Q : tf_Q} {h : LH} (hn : 297 ≤ nc) {x1 : Int32} {y0 : Int32} (q : (y0 = (0 : Int32) → Q (.int (0)) h) ∧ (¬ y0 = (0 : Int32) → lx_X9_rule nc C Q 16 [.ref (270), .int (x1)] [] h)) : lx_X9_rule nc C Q 11 [.ref (270), .int (x1)] [.int (y0)] h := by
  refine tf_LW_go ?_
  exact ⟨fun c1 => ⟨(by first | rfl | trivial), (q.1 c1)⟩, q.2⟩
set_option maxRecDepth 100000 in
theorem go_X9_rule_16 {nc : Nat} {C : tf_C} {Q : tf_Q} {h : LH} (hn : 297 ≤ nc) {x1 : Int32} (q : C 53 [.ref (270), .int (0)] h (fun r g => lx_X9_rule nc C Q 21 [.ref (270), .int (x1)] [] g)) : lx_X9_rule nc C Q 16 [.ref (270), .int (x1)] [] h := by
  refine tf_LW_go ?_
  exact ⟨Nat.le_of_ble_eq_true rfl, Nat.le_of_ble_eq_true rfl, q⟩
set_option maxRecDepth 100000 in
theorem go_X9_rule_21 {nc : Nat} {C : tf_C} {Q : tf_Q} {h : LH} (hn : 297 ≤ nc) {x1 : Int32} (q : Q (.int (1)) (tf_up h.1 271 (2 : Int32).toNatClampNeg x1, h.2)) : lx_X9_rule nc C Q 21 [.ref (270), .int (x1)] [] h := by
  refine tf_LW_go ?_
  exact ⟨⟨(by first | rfl | trivial), (show 270 < nc by omega)⟩, ⟨⟨(by first | rfl | trivial), (show 271 < nc by omega), (vp_in_iff.mpr (by decide))⟩, ⟨(by first | rfl | trivial), q⟩⟩⟩
abbrev lx_X9_canShift (nc : Nat) (C : tf_C) (Q : tf_Q) : tf_X := tf_LW nc C (tf_F 7) (tf_M 7) (tf_I 7) (tf_Eh 57) 2 tb_X9_canShift Q
set_option maxRecDepth 100000 in
theorem go_X9_canShift_0 {nc : Nat} {C : tf_C} {Q : tf_Q} {h : LH} (hn : 297 ≤ nc) {x1 : Int32} {x2 : Int32} {x3 : Int32} (q : C 7 [.ref (270), .int (x1), .int (x2)] h (fun r g => lx_X9_canShift nc C Q 6 [.ref (270), .int (x1), .int (x2), .int (x3)] (r :: []) g)) : lx_X9_canShift nc C Q 0 [.ref (270), .int (x1), .int (x2), .int (x3)] [] h := by
  refine tf_LW_go ?_
  exact ⟨Nat.le_of_ble_eq_true rfl, Nat.le_of_ble_eq_true rfl, q⟩
theorem en_X9_canShift {nc d : Nat} {Q : tf_Q} {h : LH} (hn : 297 ≤ nc) {x1 : Int32} {x2 : Int32} {x3 : Int32} (q : lx_X9_canShift nc (tf_Cd nc d) Q 0 [.ref (270), .int (x1), .int (x2), .int (x3)] [] h) : tf_Cd nc (d + 1) 57 [.ref (270), .int (x1), .int (x2), .int (x3)] h Q := by
  exact ⟨⟨Nat.le_of_ble_eq_true rfl, Or.inr ⟨rfl, (show 270 < nc by omega)⟩⟩, q⟩
set_option maxRecDepth 100000 in
theorem go_X9_canShift_6 {nc : Nat} {C : tf_C} {Q : tf_Q} {h : LH} (hn : 297 ≤ nc) {x1 : Int32} {x2 : Int32} {x3 : Int32} {y0 : Int32} (q : (y0 = (0 : Int32) → lx_X9_canShift nc C Q 55 [.ref (270), .int (x1), .int (x2), .int (x3)] [] h) ∧ (¬ y0 = (0 : Int32) → C 0 [.int (x3), .int (1), .int (99)] h (fun r g => lx_X9_canShift nc C Q 16 [.ref (270), .int (x1), .int (x2), .int (x3)] (r :: []) g))) : lx_X9_canShift nc C Q 6 [.ref (270), .int (x1), .int (x2), .int (x3)] [.int (y0)] h := by
  refine tf_LW_go ?_
  exact ⟨q.1, fun c1 => ⟨Nat.le_of_ble_eq_true rfl, Nat.le_of_ble_eq_true rfl, (q.2 c1)⟩⟩
set_option maxRecDepth 100000 in
theorem go_X9_canShift_16 {nc : Nat} {C : tf_C} {Q : tf_Q} {h : LH} (hn : 297 ≤ nc) {x1 : Int32} {x2 : Int32} {x3 : Int32} {y0 : Int32} (q : (y0 = (0 : Int32) → lx_X9_canShift nc C Q 55 [.ref (270), .int (x1), .int (x2), .int (x3)] [] h) ∧ (¬ y0 = (0 : Int32) → (vp_in (44 + x1) 865) ∧ ((99 : Int32) < ((h.1 271 (44 + x1 : Int32).toNatClampNeg) + x3) → lx_X9_canShift nc C Q 55 [.ref (270), .int (x1), .int (x2), .int (x3)] [] h) ∧ (¬ (99 : Int32) < ((h.1 271 (44 + x1 : Int32).toNatClampNeg) + x3) → (vp_in (44 + x2) 865) ∧ (((h.1 271 (44 + x2 : Int32).toNatClampNeg) - x3) < ((-99) : Int32) → lx_X9_canShift nc C Q 55 [.ref (270), .int (x1), .int (x2), .int (x3)] [] h) ∧ (¬ ((h.1 271 (44 + x2 : Int32).toNatClampNeg) - x3) < ((-99) : Int32) → lx_X9_canShift nc C Q 56 [.ref (270), .int (x1), .int (x2), .int (x3)] [.int (1)] h)))) : lx_X9_canShift nc C Q 16 [.ref (270), .int (x1), .int (x2), .int (x3)] [.int (y0)] h := by
  refine tf_LW_go ?_
  exact ⟨q.1, fun c3 => ⟨⟨(by first | rfl | trivial), (show 270 < nc by omega)⟩, ⟨⟨(by first | rfl | trivial), (show 271 < nc by omega), (q.2 c3).1⟩, ⟨(q.2 c3).2.1, fun c2 => ⟨⟨(by first | rfl | trivial), (show 270 < nc by omega)⟩, ⟨⟨(by first | rfl | trivial), (show 271 < nc by omega), ((q.2 c3).2.2 c2).1⟩, ⟨((q.2 c3).2.2 c2).2.1, fun c1 => (((q.2 c3).2.2 c2).2.2 c1)⟩⟩⟩⟩⟩⟩⟩
set_option maxRecDepth 100000 in
theorem go_X9_canShift_55 {nc : Nat} {C : tf_C} {Q : tf_Q} {h : LH} (hn : 297 ≤ nc) {x1 : Int32} {x2 : Int32} {x3 : Int32} (q : lx_X9_canShift nc C Q 56 [.ref (270), .int (x1), .int (x2), .int (x3)] [.int (0)] h) : lx_X9_canShift nc C Q 55 [.ref (270), .int (x1), .int (x2), .int (x3)] [] h := by
  refine tf_LW_go ?_
  exact q
set_option maxRecDepth 100000 in
theorem go_X9_canShift_56 {nc : Nat} {C : tf_C} {Q : tf_Q} {h : LH} (hn : 297 ≤ nc) {x1 : Int32} {x2 : Int32} {x3 : Int32} {y0 : Int32} (q : (vp_nar .boolean (y0) = (y0)) ∧ Q (.int (y0)) h) : lx_X9_canShift nc C Q 56 [.ref (270), .int (x1), .int (x2), .int (x3)] [.int (y0)] h := by
  refine tf_LW_go ?_
  exact q
abbrev lx_X9_shifts (nc : Nat) (C : tf_C) (Q : tf_Q) : tf_X := tf_LW nc C (tf_F 7) (tf_M 7) (tf_I 7) (tf_Eh 58) 0 tb_X9_shifts Q
set_option maxRecDepth 100000 in
theorem go_X9_shifts_0 {nc : Nat} {C : tf_C} {Q : tf_Q} {h : LH} (hn : 297 ≤ nc) {x1 : Int32} {x2 : Int32} {x3 : Int32} (q : (vp_in (44 + x1) 865) ∧ (vp_in (44 + x1) 865) ∧ (vp_in (44 + x2) 865) ∧ (vp_in (44 + x2) 865) ∧ C 52 [.ref (270), .int (1)] (tf_up (tf_up h.1 271 (44 + x1 : Int32).toNatClampNeg ((h.1 271 (44 + x1 : Int32).toNatClampNeg) + x3)) 271 (44 + x2 : Int32).toNatClampNeg (((tf_up h.1 271 (44 + x1 : Int32).toNatClampNeg ((h.1 271 (44 + x1 : Int32).toNatClampNeg) + x3)) 271 (44 + x2 : Int32).toNatClampNeg) - x3), h.2) (fun r g => lx_X9_shifts nc C Q 31 [.ref (270), .int (x1), .int (x2), .int (x3)] [] g)) : lx_X9_shifts nc C Q 0 [.ref (270), .int (x1), .int (x2), .int (x3)] [] h := by
  refine tf_LW_go ?_
  exact ⟨⟨(by first | rfl | trivial), (show 270 < nc by omega)⟩, ⟨⟨(by first | rfl | trivial), (show 271 < nc by omega), q.1⟩, ⟨⟨(by first | rfl | trivial), (show 271 < nc by omega), q.2.1⟩, ⟨⟨(by first | rfl | trivial), (show 270 < nc by omega)⟩, ⟨⟨(by first | rfl | trivial), (show 271 < nc by omega), q.2.2.1⟩, ⟨⟨(by first | rfl | trivial), (show 271 < nc by omega), q.2.2.2.1⟩, ⟨Nat.le_of_ble_eq_true rfl, Nat.le_of_ble_eq_true rfl, q.2.2.2.2⟩⟩⟩⟩⟩⟩⟩
theorem en_X9_shifts {nc d : Nat} {Q : tf_Q} {h : LH} (hn : 297 ≤ nc) {x1 : Int32} {x2 : Int32} {x3 : Int32} (q : lx_X9_shifts nc (tf_Cd nc d) Q 0 [.ref (270), .int (x1), .int (x2), .int (x3)] [] h) : tf_Cd nc (d + 1) 58 [.ref (270), .int (x1), .int (x2), .int (x3)] h Q := by
  exact ⟨⟨Nat.le_of_ble_eq_true rfl, Or.inr ⟨rfl, (show 270 < nc by omega)⟩⟩, q⟩
set_option maxRecDepth 100000 in
theorem go_X9_shifts_31 {nc : Nat} {C : tf_C} {Q : tf_Q} {h : LH} (hn : 297 ≤ nc) {x1 : Int32} {x2 : Int32} {x3 : Int32} (q : Q tf_z h) : lx_X9_shifts nc C Q 31 [.ref (270), .int (x1), .int (x2), .int (x3)] [] h := by
  refine tf_LW_go ?_
  exact ⟨(by first | rfl | trivial), q⟩
abbrev lx_X9_shift (nc : Nat) (C : tf_C) (Q : tf_Q) : tf_X := tf_LW nc C (tf_F 7) (tf_M 7) (tf_I 7) (tf_Eh 59) 2 tb_X9_shift Q
set_option maxRecDepth 100000 in
theorem go_X9_shift_0 {nc : Nat} {C : tf_C} {Q : tf_Q} {h : LH} (hn : 297 ≤ nc) {x1 : Int32} {x2 : Int32} {x3 : Int32} (q : C 57 [.ref (270), .int (x1), .int (x2), .int (x3)] (tf_up h.1 270 0 0, h.2) (fun r g => lx_X9_shift nc C Q 12 [.ref (270), .int (x1), .int (x2), .int (x3)] (r :: []) g)) : lx_X9_shift nc C Q 0 [.ref (270), .int (x1), .int (x2), .int (x3)] [] h := by
  refine tf_LW_go ?_
  exact ⟨⟨(by first | rfl | trivial), (show 270 < nc by omega), (by first | rfl | trivial)⟩, ⟨Nat.le_of_ble_eq_true rfl, Nat.le_of_ble_eq_true rfl, q⟩⟩
theorem en_X9_shift {nc d : Nat} {Q : tf_Q} {h : LH} (hn : 297 ≤ nc) {x1 : Int32} {x2 : Int32} {x3 : Int32} (q : lx_X9_shift nc (tf_Cd nc d) Q 0 [.ref (270), .int (x1), .int (x2), .int (x3)] [] h) : tf_Cd nc (d + 1) 59 [.ref (270), .int (x1), .int (x2), .int (x3)] h Q := by
  exact ⟨⟨Nat.le_of_ble_eq_true rfl, Or.inr ⟨rfl, (show 270 < nc by omega)⟩⟩, q⟩
set_option maxRecDepth 100000 in
theorem go_X9_shift_12 {nc : Nat} {C : tf_C} {Q : tf_Q} {h : LH} (hn : 297 ≤ nc) {x1 : Int32} {x2 : Int32} {x3 : Int32} {y0 : Int32} (q : (y0 = (0 : Int32) → Q (.int (0)) h) ∧ (¬ y0 = (0 : Int32) → lx_X9_shift nc C Q 17 [.ref (270), .int (x1), .int (x2), .int (x3)] [] h)) : lx_X9_shift nc C Q 12 [.ref (270), .int (x1), .int (x2), .int (x3)] [.int (y0)] h := by
  refine tf_LW_go ?_
  exact ⟨fun c1 => ⟨(by first | rfl | trivial), (q.1 c1)⟩, q.2⟩
set_option maxRecDepth 100000 in
theorem go_X9_shift_17 {nc : Nat} {C : tf_C} {Q : tf_Q} {h : LH} (hn : 297 ≤ nc) {x1 : Int32} {x2 : Int32} {x3 : Int32} (q : C 53 [.ref (270), .int (0)] h (fun r g => lx_X9_shift nc C Q 22 [.ref (270), .int (x1), .int (x2), .int (x3)] [] g)) : lx_X9_shift nc C Q 17 [.ref (270), .int (x1), .int (x2), .int (x3)] [] h := by
  refine tf_LW_go ?_
  exact ⟨Nat.le_of_ble_eq_true rfl, Nat.le_of_ble_eq_true rfl, q⟩
set_option maxRecDepth 100000 in
theorem go_X9_shift_22 {nc : Nat} {C : tf_C} {Q : tf_Q} {h : LH} (hn : 297 ≤ nc) {x1 : Int32} {x2 : Int32} {x3 : Int32} (q : C 58 [.ref (270), .int (x1), .int (x2), .int (x3)] h (fun r g => lx_X9_shift nc C Q 29 [.ref (270), .int (x1), .int (x2), .int (x3)] [] g)) : lx_X9_shift nc C Q 22 [.ref (270), .int (x1), .int (x2), .int (x3)] [] h := by
  refine tf_LW_go ?_
  exact ⟨Nat.le_of_ble_eq_true rfl, Nat.le_of_ble_eq_true rfl, q⟩
set_option maxRecDepth 100000 in
theorem go_X9_shift_29 {nc : Nat} {C : tf_C} {Q : tf_Q} {h : LH} (hn : 297 ≤ nc) {x1 : Int32} {x2 : Int32} {x3 : Int32} (q : Q (.int (1)) h) : lx_X9_shift nc C Q 29 [.ref (270), .int (x1), .int (x2), .int (x3)] [] h := by
  refine tf_LW_go ?_
  exact ⟨(by first | rfl | trivial), q⟩
abbrev lx_X9_canBe (nc : Nat) (C : tf_C) (Q : tf_Q) : tf_X := tf_LW nc C (tf_F 7) (tf_M 7) (tf_I 7) (tf_Eh 60) 2 tb_X9_canBe Q
set_option maxRecDepth 100000 in
theorem go_X9_canBe_0 {nc : Nat} {C : tf_C} {Q : tf_Q} {h : LH} (hn : 297 ≤ nc) {x1 : Int32} {x2 : Int32} {x3 : Int32} {x4 : Int32} (q : C 5 [.ref (270), .int (x1)] h (fun r g => lx_X9_canBe nc C Q 5 [.ref (270), .int (x1), .int (x2), .int (x3), .int (x4)] (r :: []) g)) : lx_X9_canBe nc C Q 0 [.ref (270), .int (x1), .int (x2), .int (x3), .int (x4)] [] h := by
  refine tf_LW_go ?_
  exact ⟨Nat.le_of_ble_eq_true rfl, Nat.le_of_ble_eq_true rfl, q⟩
theorem en_X9_canBe {nc d : Nat} {Q : tf_Q} {h : LH} (hn : 297 ≤ nc) {x1 : Int32} {x2 : Int32} {x3 : Int32} {x4 : Int32} (q : lx_X9_canBe nc (tf_Cd nc d) Q 0 [.ref (270), .int (x1), .int (x2), .int (x3), .int (x4)] [] h) : tf_Cd nc (d + 1) 60 [.ref (270), .int (x1), .int (x2), .int (x3), .int (x4)] h Q := by
  exact ⟨⟨Nat.le_of_ble_eq_true rfl, Or.inr ⟨rfl, (show 270 < nc by omega)⟩⟩, q⟩
set_option maxRecDepth 100000 in
theorem go_X9_canBe_5 {nc : Nat} {C : tf_C} {Q : tf_Q} {h : LH} (hn : 297 ≤ nc) {x1 : Int32} {x2 : Int32} {x3 : Int32} {x4 : Int32} {y0 : Int32} (q : (y0 = (0 : Int32) → lx_X9_canBe nc C Q 43 [.ref (270), .int (x1), .int (x2), .int (x3), .int (x4)] [] h) ∧ (¬ y0 = (0 : Int32) → (x2 = (6 : Int32) → lx_X9_canBe nc C Q 23 [.ref (270), .int (x1), .int (x2), .int (x3), .int (x4)] [.int (1), .int (x4), .int (x3)] h) ∧ (¬ x2 = (6 : Int32) → lx_X9_canBe nc C Q 21 [.ref (270), .int (x1), .int (x2), .int (x3), .int (x4)] [.int (x4), .int (x3)] h))) : lx_X9_canBe nc C Q 5 [.ref (270), .int (x1), .int (x2), .int (x3), .int (x4)] [.int (y0)] h := by
  refine tf_LW_go ?_
  exact ⟨q.1, fun c2 => ⟨fun c1 => ((q.2 c2).1 c1), (q.2 c2).2⟩⟩
set_option maxRecDepth 100000 in
theorem go_X9_canBe_21 {nc : Nat} {C : tf_C} {Q : tf_Q} {h : LH} (hn : 297 ≤ nc) {x1 : Int32} {x2 : Int32} {x3 : Int32} {x4 : Int32} {y0 : Int32} {y1 : Int32} (q : lx_X9_canBe nc C Q 23 [.ref (270), .int (x1), .int (x2), .int (x3), .int (x4)] [.int (99), .int (y1), .int (y0)] h) : lx_X9_canBe nc C Q 21 [.ref (270), .int (x1), .int (x2), .int (x3), .int (x4)] [.int (y1), .int (y0)] h := by
  refine tf_LW_go ?_
  exact q
set_option maxRecDepth 100000 in
theorem go_X9_canBe_23 {nc : Nat} {C : tf_C} {Q : tf_Q} {h : LH} (hn : 297 ≤ nc) {x1 : Int32} {x2 : Int32} {x3 : Int32} {x4 : Int32} {y0 : Int32} {y1 : Int32} {y2 : Int32} (q : C 0 [.int (y0), .int (y1), .int (y2)] h (fun r g => lx_X9_canBe nc C Q 26 [.ref (270), .int (x1), .int (x2), .int (x3), .int (x4)] (r :: []) g)) : lx_X9_canBe nc C Q 23 [.ref (270), .int (x1), .int (x2), .int (x3), .int (x4)] [.int (y2), .int (y1), .int (y0)] h := by
  refine tf_LW_go ?_
  exact ⟨Nat.le_of_ble_eq_true rfl, Nat.le_of_ble_eq_true rfl, q⟩
set_option maxRecDepth 100000 in
theorem go_X9_canBe_26 {nc : Nat} {C : tf_C} {Q : tf_Q} {h : LH} (hn : 297 ≤ nc) {x1 : Int32} {x2 : Int32} {x3 : Int32} {x4 : Int32} {y0 : Int32} (q : (y0 = (0 : Int32) → lx_X9_canBe nc C Q 43 [.ref (270), .int (x1), .int (x2), .int (x3), .int (x4)] [] h) ∧ (¬ y0 = (0 : Int32) → C 3 [.ref (270), .int (x1), .int (x2)] h (fun r g => lx_X9_canBe nc C Q 35 [.ref (270), .int (x1), .int (x2), .int (x3), .int (x4)] (r :: []) g))) : lx_X9_canBe nc C Q 26 [.ref (270), .int (x1), .int (x2), .int (x3), .int (x4)] [.int (y0)] h := by
  refine tf_LW_go ?_
  exact ⟨q.1, fun c1 => ⟨Nat.le_of_ble_eq_true rfl, Nat.le_of_ble_eq_true rfl, (q.2 c1)⟩⟩
set_option maxRecDepth 100000 in
theorem go_X9_canBe_35 {nc : Nat} {C : tf_C} {Q : tf_Q} {h : LH} (hn : 297 ≤ nc) {x1 : Int32} {x2 : Int32} {x3 : Int32} {x4 : Int32} {y0 : Int32} (q : (y0 = x3 → lx_X9_canBe nc C Q 43 [.ref (270), .int (x1), .int (x2), .int (x3), .int (x4)] [] h) ∧ (¬ y0 = x3 → lx_X9_canBe nc C Q 44 [.ref (270), .int (x1), .int (x2), .int (x3), .int (x4)] [.int (1)] h)) : lx_X9_canBe nc C Q 35 [.ref (270), .int (x1), .int (x2), .int (x3), .int (x4)] [.int (y0)] h := by
  refine tf_LW_go ?_
  exact ⟨q.1, fun c1 => (q.2 c1)⟩
set_option maxRecDepth 100000 in
theorem go_X9_canBe_43 {nc : Nat} {C : tf_C} {Q : tf_Q} {h : LH} (hn : 297 ≤ nc) {x1 : Int32} {x2 : Int32} {x3 : Int32} {x4 : Int32} (q : lx_X9_canBe nc C Q 44 [.ref (270), .int (x1), .int (x2), .int (x3), .int (x4)] [.int (0)] h) : lx_X9_canBe nc C Q 43 [.ref (270), .int (x1), .int (x2), .int (x3), .int (x4)] [] h := by
  refine tf_LW_go ?_
  exact q
set_option maxRecDepth 100000 in
theorem go_X9_canBe_44 {nc : Nat} {C : tf_C} {Q : tf_Q} {h : LH} (hn : 297 ≤ nc) {x1 : Int32} {x2 : Int32} {x3 : Int32} {x4 : Int32} {y0 : Int32} (q : (vp_nar .boolean (y0) = (y0)) ∧ Q (.int (y0)) h) : lx_X9_canBe nc C Q 44 [.ref (270), .int (x1), .int (x2), .int (x3), .int (x4)] [.int (y0)] h := by
  refine tf_LW_go ?_
  exact q
abbrev lx_X9_becomes (nc : Nat) (C : tf_C) (Q : tf_Q) : tf_X := tf_LW nc C (tf_F 7) (tf_M 7) (tf_I 7) (tf_Eh 61) 0 tb_X9_becomes Q
set_option maxRecDepth 100000 in
theorem go_X9_becomes_0 {nc : Nat} {C : tf_C} {Q : tf_Q} {h : LH} (hn : 297 ≤ nc) {x1 : Int32} {x2 : Int32} {x3 : Int32} (q : C 4 [.ref (270), .int (x1), .int (x2), .int (x3)] h (fun r g => lx_X9_becomes nc C Q 7 [.ref (270), .int (x1), .int (x2), .int (x3)] [] g)) : lx_X9_becomes nc C Q 0 [.ref (270), .int (x1), .int (x2), .int (x3)] [] h := by
  refine tf_LW_go ?_
  exact ⟨Nat.le_of_ble_eq_true rfl, Nat.le_of_ble_eq_true rfl, q⟩
theorem en_X9_becomes {nc d : Nat} {Q : tf_Q} {h : LH} (hn : 297 ≤ nc) {x1 : Int32} {x2 : Int32} {x3 : Int32} (q : lx_X9_becomes nc (tf_Cd nc d) Q 0 [.ref (270), .int (x1), .int (x2), .int (x3)] [] h) : tf_Cd nc (d + 1) 61 [.ref (270), .int (x1), .int (x2), .int (x3)] h Q := by
  exact ⟨⟨Nat.le_of_ble_eq_true rfl, Or.inr ⟨rfl, (show 270 < nc by omega)⟩⟩, q⟩
set_option maxRecDepth 100000 in
theorem go_X9_becomes_7 {nc : Nat} {C : tf_C} {Q : tf_Q} {h : LH} (hn : 297 ≤ nc) {x1 : Int32} {x2 : Int32} {x3 : Int32} (q : (x2 = (3 : Int32) → lx_X9_becomes nc C Q 17 [.ref (270), .int (x1), .int (x2), .int (x3)] [] h) ∧ (¬ x2 = (3 : Int32) → C 52 [.ref (270), .int (1)] h (fun r g => lx_X9_becomes nc C Q 17 [.ref (270), .int (x1), .int (x2), .int (x3)] [] g))) : lx_X9_becomes nc C Q 7 [.ref (270), .int (x1), .int (x2), .int (x3)] [] h := by
  refine tf_LW_go ?_
  exact ⟨q.1, fun c1 => ⟨Nat.le_of_ble_eq_true rfl, Nat.le_of_ble_eq_true rfl, (q.2 c1)⟩⟩
set_option maxRecDepth 100000 in
theorem go_X9_becomes_17 {nc : Nat} {C : tf_C} {Q : tf_Q} {h : LH} (hn : 297 ≤ nc) {x1 : Int32} {x2 : Int32} {x3 : Int32} (q : Q tf_z h) : lx_X9_becomes nc C Q 17 [.ref (270), .int (x1), .int (x2), .int (x3)] [] h := by
  refine tf_LW_go ?_
  exact ⟨(by first | rfl | trivial), q⟩
abbrev lx_X9_tells (nc : Nat) (C : tf_C) (Q : tf_Q) : tf_X := tf_LW nc C (tf_F 7) (tf_M 7) (tf_I 7) (tf_Eh 62) 2 tb_X9_tells Q
set_option maxRecDepth 100000 in
theorem go_X9_tells_0 {nc : Nat} {C : tf_C} {Q : tf_Q} {h : LH} (hn : 297 ≤ nc) {x1 : Int32} {x2 : Int32} {x3 : Int32} {x4 : Int32} (q : C 60 [.ref (270), .int (x1), .int (x2), .int (x3), .int (x4)] (tf_up h.1 270 0 0, h.2) (fun r g => lx_X9_tells nc C Q 14 [.ref (270), .int (x1), .int (x2), .int (x3), .int (x4)] (r :: []) g)) : lx_X9_tells nc C Q 0 [.ref (270), .int (x1), .int (x2), .int (x3), .int (x4)] [] h := by
  refine tf_LW_go ?_
  exact ⟨⟨(by first | rfl | trivial), (show 270 < nc by omega), (by first | rfl | trivial)⟩, ⟨Nat.le_of_ble_eq_true rfl, Nat.le_of_ble_eq_true rfl, q⟩⟩
theorem en_X9_tells {nc d : Nat} {Q : tf_Q} {h : LH} (hn : 297 ≤ nc) {x1 : Int32} {x2 : Int32} {x3 : Int32} {x4 : Int32} (q : lx_X9_tells nc (tf_Cd nc d) Q 0 [.ref (270), .int (x1), .int (x2), .int (x3), .int (x4)] [] h) : tf_Cd nc (d + 1) 62 [.ref (270), .int (x1), .int (x2), .int (x3), .int (x4)] h Q := by
  exact ⟨⟨Nat.le_of_ble_eq_true rfl, Or.inr ⟨rfl, (show 270 < nc by omega)⟩⟩, q⟩
set_option maxRecDepth 100000 in
theorem go_X9_tells_14 {nc : Nat} {C : tf_C} {Q : tf_Q} {h : LH} (hn : 297 ≤ nc) {x1 : Int32} {x2 : Int32} {x3 : Int32} {x4 : Int32} {y0 : Int32} (q : (y0 = (0 : Int32) → Q (.int (0)) h) ∧ (¬ y0 = (0 : Int32) → lx_X9_tells nc C Q 19 [.ref (270), .int (x1), .int (x2), .int (x3), .int (x4)] [] h)) : lx_X9_tells nc C Q 14 [.ref (270), .int (x1), .int (x2), .int (x3), .int (x4)] [.int (y0)] h := by
  refine tf_LW_go ?_
  exact ⟨fun c1 => ⟨(by first | rfl | trivial), (q.1 c1)⟩, q.2⟩
set_option maxRecDepth 100000 in
theorem go_X9_tells_19 {nc : Nat} {C : tf_C} {Q : tf_Q} {h : LH} (hn : 297 ≤ nc) {x1 : Int32} {x2 : Int32} {x3 : Int32} {x4 : Int32} (q : C 53 [.ref (270), .int (0)] h (fun r g => lx_X9_tells nc C Q 24 [.ref (270), .int (x1), .int (x2), .int (x3), .int (x4)] [] g)) : lx_X9_tells nc C Q 19 [.ref (270), .int (x1), .int (x2), .int (x3), .int (x4)] [] h := by
  refine tf_LW_go ?_
  exact ⟨Nat.le_of_ble_eq_true rfl, Nat.le_of_ble_eq_true rfl, q⟩
set_option maxRecDepth 100000 in
theorem go_X9_tells_24 {nc : Nat} {C : tf_C} {Q : tf_Q} {h : LH} (hn : 297 ≤ nc) {x1 : Int32} {x2 : Int32} {x3 : Int32} {x4 : Int32} (q : C 61 [.ref (270), .int (x1), .int (x2), .int (x3)] h (fun r g => lx_X9_tells nc C Q 31 [.ref (270), .int (x1), .int (x2), .int (x3), .int (x4)] [] g)) : lx_X9_tells nc C Q 24 [.ref (270), .int (x1), .int (x2), .int (x3), .int (x4)] [] h := by
  refine tf_LW_go ?_
  exact ⟨Nat.le_of_ble_eq_true rfl, Nat.le_of_ble_eq_true rfl, q⟩
set_option maxRecDepth 100000 in
theorem go_X9_tells_31 {nc : Nat} {C : tf_C} {Q : tf_Q} {h : LH} (hn : 297 ≤ nc) {x1 : Int32} {x2 : Int32} {x3 : Int32} {x4 : Int32} (q : Q (.int (1)) h) : lx_X9_tells nc C Q 31 [.ref (270), .int (x1), .int (x2), .int (x3), .int (x4)] [] h := by
  refine tf_LW_go ?_
  exact ⟨(by first | rfl | trivial), q⟩
abbrev lx_X9_block (nc : Nat) (C : tf_C) (Q : tf_Q) : tf_X := tf_LW nc C (tf_F 7) (tf_M 7) (tf_I 7) (tf_Eh 63) 2 tb_X9_block Q
set_option maxRecDepth 100000 in
theorem go_X9_block_0 {nc : Nat} {C : tf_C} {Q : tf_Q} {h : LH} (hn : 297 ≤ nc) {x1 : Int32} {x2 : Int32} (q : (x2 = (0 : Int32) → lx_X9_block nc C Q 12 [.ref (270), .int (x1), .int (x2)] [.int (6), .int (x1), .ref (270)] h) ∧ (¬ x2 = (0 : Int32) → lx_X9_block nc C Q 13 [.ref (270), .int (x1), .int (x2)] [.int (0), .int (6), .int (x1), .ref (270)] h)) : lx_X9_block nc C Q 0 [.ref (270), .int (x1), .int (x2)] [] h := by
  refine tf_LW_go ?_
  exact ⟨q.1, fun c1 => (q.2 c1)⟩
theorem en_X9_block {nc d : Nat} {Q : tf_Q} {h : LH} (hn : 297 ≤ nc) {x1 : Int32} {x2 : Int32} (q : lx_X9_block nc (tf_Cd nc d) Q 0 [.ref (270), .int (x1), .int (x2)] [] h) : tf_Cd nc (d + 1) 63 [.ref (270), .int (x1), .int (x2)] h Q := by
  exact ⟨⟨Nat.le_of_ble_eq_true rfl, Or.inr ⟨rfl, (show 270 < nc by omega)⟩⟩, q⟩
set_option maxRecDepth 100000 in
theorem go_X9_block_12 {nc : Nat} {C : tf_C} {Q : tf_Q} {h : LH} (hn : 297 ≤ nc) {x1 : Int32} {x2 : Int32} {y1 : Int32} {y2 : Int32} (q : lx_X9_block nc C Q 13 [.ref (270), .int (x1), .int (x2)] [.int (1), .int (y2), .int (y1), .ref (270)] h) : lx_X9_block nc C Q 12 [.ref (270), .int (x1), .int (x2)] [.int (y2), .int (y1), .ref (270)] h := by
  refine tf_LW_go ?_
  exact q
set_option maxRecDepth 100000 in
theorem go_X9_block_13 {nc : Nat} {C : tf_C} {Q : tf_Q} {h : LH} (hn : 297 ≤ nc) {x1 : Int32} {x2 : Int32} {y1 : Int32} {y2 : Int32} {y3 : Int32} (q : C 62 [.ref (270), .int (y1), .int (y2), .int (y3), .int (0)] h (fun r g => lx_X9_block nc C Q 17 [.ref (270), .int (x1), .int (x2)] (r :: []) g)) : lx_X9_block nc C Q 13 [.ref (270), .int (x1), .int (x2)] [.int (y3), .int (y2), .int (y1), .ref (270)] h := by
  refine tf_LW_go ?_
  exact ⟨Nat.le_of_ble_eq_true rfl, Nat.le_of_ble_eq_true rfl, q⟩
set_option maxRecDepth 100000 in
theorem go_X9_block_17 {nc : Nat} {C : tf_C} {Q : tf_Q} {h : LH} (hn : 297 ≤ nc) {x1 : Int32} {x2 : Int32} {y0 : Int32} (q : (vp_nar .boolean (y0) = (y0)) ∧ Q (.int (y0)) h) : lx_X9_block nc C Q 17 [.ref (270), .int (x1), .int (x2)] [.int (y0)] h := by
  refine tf_LW_go ?_
  exact q
abbrev lx_X9_widen (nc : Nat) (C : tf_C) (Q : tf_Q) : tf_X := tf_LW nc C (tf_F 7) (tf_M 7) (tf_I 7) (tf_Eh 64) 2 tb_X9_widen Q
set_option maxRecDepth 100000 in
theorem go_X9_widen_0 {nc : Nat} {C : tf_C} {Q : tf_Q} {h : LH} (hn : 297 ≤ nc) {x1 : Int32} {x2 : Int32} (q : C 62 [.ref (270), .int (x1), .int (2), .int (x2), .int (0)] h (fun r g => lx_X9_widen nc C Q 8 [.ref (270), .int (x1), .int (x2)] (r :: []) g)) : lx_X9_widen nc C Q 0 [.ref (270), .int (x1), .int (x2)] [] h := by
  refine tf_LW_go ?_
  exact ⟨Nat.le_of_ble_eq_true rfl, Nat.le_of_ble_eq_true rfl, q⟩
theorem en_X9_widen {nc d : Nat} {Q : tf_Q} {h : LH} (hn : 297 ≤ nc) {x1 : Int32} {x2 : Int32} (q : lx_X9_widen nc (tf_Cd nc d) Q 0 [.ref (270), .int (x1), .int (x2)] [] h) : tf_Cd nc (d + 1) 64 [.ref (270), .int (x1), .int (x2)] h Q := by
  exact ⟨⟨Nat.le_of_ble_eq_true rfl, Or.inr ⟨rfl, (show 270 < nc by omega)⟩⟩, q⟩
set_option maxRecDepth 100000 in
theorem go_X9_widen_8 {nc : Nat} {C : tf_C} {Q : tf_Q} {h : LH} (hn : 297 ≤ nc) {x1 : Int32} {x2 : Int32} {y0 : Int32} (q : (vp_nar .boolean (y0) = (y0)) ∧ Q (.int (y0)) h) : lx_X9_widen nc C Q 8 [.ref (270), .int (x1), .int (x2)] [.int (y0)] h := by
  refine tf_LW_go ?_
  exact q
abbrev lx_X9_charge (nc : Nat) (C : tf_C) (Q : tf_Q) : tf_X := tf_LW nc C (tf_F 7) (tf_M 7) (tf_I 7) (tf_Eh 65) 2 tb_X9_charge Q
set_option maxRecDepth 100000 in
theorem go_X9_charge_0 {nc : Nat} {C : tf_C} {Q : tf_Q} {h : LH} (hn : 297 ≤ nc) {x1 : Int32} {x2 : Int32} (q : C 62 [.ref (270), .int (x1), .int (3), .int (x2), .int ((-99))] h (fun r g => lx_X9_charge nc C Q 9 [.ref (270), .int (x1), .int (x2)] (r :: []) g)) : lx_X9_charge nc C Q 0 [.ref (270), .int (x1), .int (x2)] [] h := by
  refine tf_LW_go ?_
  exact ⟨Nat.le_of_ble_eq_true rfl, Nat.le_of_ble_eq_true rfl, q⟩
theorem en_X9_charge {nc d : Nat} {Q : tf_Q} {h : LH} (hn : 297 ≤ nc) {x1 : Int32} {x2 : Int32} (q : lx_X9_charge nc (tf_Cd nc d) Q 0 [.ref (270), .int (x1), .int (x2)] [] h) : tf_Cd nc (d + 1) 65 [.ref (270), .int (x1), .int (x2)] h Q := by
  exact ⟨⟨Nat.le_of_ble_eq_true rfl, Or.inr ⟨rfl, (show 270 < nc by omega)⟩⟩, q⟩
set_option maxRecDepth 100000 in
theorem go_X9_charge_9 {nc : Nat} {C : tf_C} {Q : tf_Q} {h : LH} (hn : 297 ≤ nc) {x1 : Int32} {x2 : Int32} {y0 : Int32} (q : (vp_nar .boolean (y0) = (y0)) ∧ Q (.int (y0)) h) : lx_X9_charge nc C Q 9 [.ref (270), .int (x1), .int (x2)] [.int (y0)] h := by
  refine tf_LW_go ?_
  exact q
abbrev lx_X9_cold (nc : Nat) (C : tf_C) (Q : tf_Q) : tf_X := tf_LW nc C (tf_F 7) (tf_M 7) (tf_I 7) (tf_Eh 66) 0 tb_X9_cold Q
set_option maxRecDepth 100000 in
theorem go_X9_cold_0 {nc : Nat} {C : tf_C} {Q : tf_Q} {h : LH} (hn : 297 ≤ nc) (q : C 53 [.ref (270), .int (0)] (tf_up h.1 270 0 0, h.2) (fun r g => lx_X9_cold nc C Q 10 [.ref (270)] [] g)) : lx_X9_cold nc C Q 0 [.ref (270)] [] h := by
  refine tf_LW_go ?_
  exact ⟨⟨(by first | rfl | trivial), (show 270 < nc by omega), (by first | rfl | trivial)⟩, ⟨Nat.le_of_ble_eq_true rfl, Nat.le_of_ble_eq_true rfl, q⟩⟩
theorem en_X9_cold {nc d : Nat} {Q : tf_Q} {h : LH} (hn : 297 ≤ nc) (q : lx_X9_cold nc (tf_Cd nc d) Q 0 [.ref (270)] [] h) : tf_Cd nc (d + 1) 66 [.ref (270)] h Q := by
  exact ⟨⟨Nat.le_of_ble_eq_true rfl, Or.inr ⟨rfl, (show 270 < nc by omega)⟩⟩, q⟩
set_option maxRecDepth 100000 in
theorem go_X9_cold_10 {nc : Nat} {C : tf_C} {Q : tf_Q} {h : LH} (hn : 297 ≤ nc) (q : C 52 [.ref (270), .int (0)] h (fun r g => lx_X9_cold nc C Q 15 [.ref (270)] [] g)) : lx_X9_cold nc C Q 10 [.ref (270)] [] h := by
  refine tf_LW_go ?_
  exact ⟨Nat.le_of_ble_eq_true rfl, Nat.le_of_ble_eq_true rfl, q⟩
set_option maxRecDepth 100000 in
theorem go_X9_cold_15 {nc : Nat} {C : tf_C} {Q : tf_Q} {h : LH} (hn : 297 ≤ nc) (q : Q tf_z h) : lx_X9_cold nc C Q 15 [.ref (270)] [] h := by
  refine tf_LW_go ?_
  exact ⟨(by first | rfl | trivial), q⟩
abbrev lx_X9_isDoneArc (nc : Nat) (C : tf_C) (Q : tf_Q) : tf_X := tf_LW nc C (tf_F 7) (tf_M 7) (tf_I 7) (tf_Eh 67) 2 tb_X9_isDoneArc Q
set_option maxRecDepth 100000 in
theorem go_X9_isDoneArc_0 {nc : Nat} {C : tf_C} {Q : tf_Q} {h : LH} (hn : 297 ≤ nc) {x1 : Int32} {x2 : Int32} {x3 : Int32} {x4 : Int32} (q : C 60 [.ref (270), .int (x1), .int (x2), .int (x3), .int (x4)] h (fun r g => lx_X9_isDoneArc nc C Q 9 [.ref (270), .int (x1), .int (x2), .int (x3), .int (x4), tf_z] (r :: []) g)) : lx_X9_isDoneArc nc C Q 0 [.ref (270), .int (x1), .int (x2), .int (x3), .int (x4), tf_z] [] h := by
  refine tf_LW_go ?_
  exact ⟨Nat.le_of_ble_eq_true rfl, Nat.le_of_ble_eq_true rfl, q⟩
theorem en_X9_isDoneArc {nc d : Nat} {Q : tf_Q} {h : LH} (hn : 297 ≤ nc) {x1 : Int32} {x2 : Int32} {x3 : Int32} {x4 : Int32} (q : lx_X9_isDoneArc nc (tf_Cd nc d) Q 0 [.ref (270), .int (x1), .int (x2), .int (x3), .int (x4), tf_z] [] h) : tf_Cd nc (d + 1) 67 [.ref (270), .int (x1), .int (x2), .int (x3), .int (x4)] h Q := by
  exact ⟨⟨Nat.le_of_ble_eq_true rfl, Or.inr ⟨rfl, (show 270 < nc by omega)⟩⟩, q⟩
set_option maxRecDepth 100000 in
theorem go_X9_isDoneArc_9 {nc : Nat} {C : tf_C} {Q : tf_Q} {h : LH} (hn : 297 ≤ nc) {x1 : Int32} {x2 : Int32} {x3 : Int32} {x4 : Int32} {y0 : Int32} (q : (y0 = (0 : Int32) → lx_X9_isDoneArc nc C Q 23 [.ref (270), .int (x1), .int (x2), .int (x3), .int (x4), .int (y0)] [] h) ∧ (¬ y0 = (0 : Int32) → C 61 [.ref (270), .int (x1), .int (x2), .int (x3)] h (fun r g => lx_X9_isDoneArc nc C Q 23 [.ref (270), .int (x1), .int (x2), .int (x3), .int (x4), .int (y0)] [] g))) : lx_X9_isDoneArc nc C Q 9 [.ref (270), .int (x1), .int (x2), .int (x3), .int (x4), tf_z] [.int (y0)] h := by
  refine tf_LW_go ?_
  exact ⟨q.1, fun c1 => ⟨Nat.le_of_ble_eq_true rfl, Nat.le_of_ble_eq_true rfl, (q.2 c1)⟩⟩
set_option maxRecDepth 100000 in
theorem go_X9_isDoneArc_23 {nc : Nat} {C : tf_C} {Q : tf_Q} {h : LH} (hn : 297 ≤ nc) {x1 : Int32} {x2 : Int32} {x3 : Int32} {x4 : Int32} {x5 : Int32} (q : (vp_nar .boolean (x5) = (x5)) ∧ Q (.int (x5)) h) : lx_X9_isDoneArc nc C Q 23 [.ref (270), .int (x1), .int (x2), .int (x3), .int (x4), .int (x5)] [] h := by
  refine tf_LW_go ?_
  exact q
abbrev lx_X9_isDone (nc : Nat) (C : tf_C) (Q : tf_Q) : tf_X := tf_LW nc C (tf_F 7) (tf_M 7) (tf_I 7) (tf_Eh 68) 2 tb_X9_isDone Q
set_option maxRecDepth 100000 in
theorem go_X9_isDone_0 {nc : Nat} {C : tf_C} {Q : tf_Q} {h : LH} (hn : 297 ≤ nc) {x1 : Int64} {x3 : Int32} {x4 : Int32} {x5 : Int32} (q : ((lg_cmp x1 482805706612) = (0 : Int32) → C 50 [.ref (270), .int (x3)] h (fun r g => lx_X9_isDone nc C Q 13 [.ref (270), .long (x1), tf_z, .int (x3), .int (x4), .int (x5), tf_z] (r :: []) g)) ∧ (¬ (lg_cmp x1 482805706612) = (0 : Int32) → lx_X9_isDone nc C Q 22 [.ref (270), .long (x1), tf_z, .int (x3), .int (x4), .int (x5), tf_z] [] h)) : lx_X9_isDone nc C Q 0 [.ref (270), .long (x1), tf_z, .int (x3), .int (x4), .int (x5), tf_z] [] h := by
  refine tf_LW_go ?_
  exact ⟨fun c1 => ⟨Nat.le_of_ble_eq_true rfl, Nat.le_of_ble_eq_true rfl, (q.1 c1)⟩, q.2⟩
theorem en_X9_isDone {nc d : Nat} {Q : tf_Q} {h : LH} (hn : 297 ≤ nc) {x1 : Int64} {x3 : Int32} {x4 : Int32} {x5 : Int32} (q : lx_X9_isDone nc (tf_Cd nc d) Q 0 [.ref (270), .long (x1), tf_z, .int (x3), .int (x4), .int (x5), tf_z] [] h) : tf_Cd nc (d + 1) 68 [.ref (270), .long (x1), .int (x3), .int (x4), .int (x5)] h Q := by
  exact ⟨⟨Nat.le_of_ble_eq_true rfl, Or.inr ⟨rfl, (show 270 < nc by omega)⟩⟩, q⟩
set_option maxRecDepth 100000 in
theorem go_X9_isDone_13 {nc : Nat} {C : tf_C} {Q : tf_Q} {h : LH} (hn : 297 ≤ nc) {x1 : Int64} {x3 : Int32} {x4 : Int32} {x5 : Int32} {y0 : Int32} (q : (y0 ≤ (0 : Int32) → lx_X9_isDone nc C Q 20 [.ref (270), .long (x1), tf_z, .int (x3), .int (x4), .int (x5), tf_z] [] h) ∧ (¬ y0 ≤ (0 : Int32) → lx_X9_isDone nc C Q 21 [.ref (270), .long (x1), tf_z, .int (x3), .int (x4), .int (x5), tf_z] [.int (1)] h)) : lx_X9_isDone nc C Q 13 [.ref (270), .long (x1), tf_z, .int (x3), .int (x4), .int (x5), tf_z] [.int (y0)] h := by
  refine tf_LW_go ?_
  exact ⟨q.1, fun c1 => (q.2 c1)⟩
set_option maxRecDepth 100000 in
theorem go_X9_isDone_20 {nc : Nat} {C : tf_C} {Q : tf_Q} {h : LH} (hn : 297 ≤ nc) {x1 : Int64} {x3 : Int32} {x4 : Int32} {x5 : Int32} (q : lx_X9_isDone nc C Q 21 [.ref (270), .long (x1), tf_z, .int (x3), .int (x4), .int (x5), tf_z] [.int (0)] h) : lx_X9_isDone nc C Q 20 [.ref (270), .long (x1), tf_z, .int (x3), .int (x4), .int (x5), tf_z] [] h := by
  refine tf_LW_go ?_
  exact q
set_option maxRecDepth 100000 in
theorem go_X9_isDone_21 {nc : Nat} {C : tf_C} {Q : tf_Q} {h : LH} (hn : 297 ≤ nc) {x1 : Int64} {x3 : Int32} {x4 : Int32} {x5 : Int32} {y0 : Int32} (q : (vp_nar .boolean (y0) = (y0)) ∧ Q (.int (y0)) h) : lx_X9_isDone nc C Q 21 [.ref (270), .long (x1), tf_z, .int (x3), .int (x4), .int (x5), tf_z] [.int (y0)] h := by
  refine tf_LW_go ?_
  exact q
set_option maxRecDepth 100000 in
theorem go_X9_isDone_22 {nc : Nat} {C : tf_C} {Q : tf_Q} {h : LH} (hn : 297 ≤ nc) {x1 : Int64} {x3 : Int32} {x4 : Int32} {x5 : Int32} (q : ((lg_cmp x1 495672977012) = (0 : Int32) → C 57 [.ref (270), .int (x3), .int (x4), .int (x5)] h (fun r g => lx_X9_isDone nc C Q 39 [.ref (270), .long (x1), tf_z, .int (x3), .int (x4), .int (x5), tf_z] (r :: []) g)) ∧ (¬ (lg_cmp x1 495672977012) = (0 : Int32) → lx_X9_isDone nc C Q 58 [.ref (270), .long (x1), tf_z, .int (x3), .int (x4), .int (x5), tf_z] [] h)) : lx_X9_isDone nc C Q 22 [.ref (270), .long (x1), tf_z, .int (x3), .int (x4), .int (x5), tf_z] [] h := by
  refine tf_LW_go ?_
  exact ⟨fun c1 => ⟨Nat.le_of_ble_eq_true rfl, Nat.le_of_ble_eq_true rfl, (q.1 c1)⟩, q.2⟩
set_option maxRecDepth 100000 in
theorem go_X9_isDone_39 {nc : Nat} {C : tf_C} {Q : tf_Q} {h : LH} (hn : 297 ≤ nc) {x1 : Int64} {x3 : Int32} {x4 : Int32} {x5 : Int32} {y0 : Int32} (q : (y0 = (0 : Int32) → lx_X9_isDone nc C Q 55 [.ref (270), .long (x1), tf_z, .int (x3), .int (x4), .int (x5), .int (y0)] [] h) ∧ (¬ y0 = (0 : Int32) → C 58 [.ref (270), .int (x3), .int (x4), .int (x5)] h (fun r g => lx_X9_isDone nc C Q 55 [.ref (270), .long (x1), tf_z, .int (x3), .int (x4), .int (x5), .int (y0)] [] g))) : lx_X9_isDone nc C Q 39 [.ref (270), .long (x1), tf_z, .int (x3), .int (x4), .int (x5), tf_z] [.int (y0)] h := by
  refine tf_LW_go ?_
  exact ⟨q.1, fun c1 => ⟨Nat.le_of_ble_eq_true rfl, Nat.le_of_ble_eq_true rfl, (q.2 c1)⟩⟩
set_option maxRecDepth 100000 in
theorem go_X9_isDone_55 {nc : Nat} {C : tf_C} {Q : tf_Q} {h : LH} (hn : 297 ≤ nc) {x1 : Int64} {x3 : Int32} {x4 : Int32} {x5 : Int32} {x6 : Int32} (q : (vp_nar .boolean (x6) = (x6)) ∧ Q (.int (x6)) h) : lx_X9_isDone nc C Q 55 [.ref (270), .long (x1), tf_z, .int (x3), .int (x4), .int (x5), .int (x6)] [] h := by
  refine tf_LW_go ?_
  exact q
set_option maxRecDepth 100000 in
theorem go_X9_isDone_58 {nc : Nat} {C : tf_C} {Q : tf_Q} {h : LH} (hn : 297 ≤ nc) {x1 : Int64} {x3 : Int32} {x4 : Int32} {x5 : Int32} (q : ((lg_cmp x1 422726034283) = (0 : Int32) → lx_X9_isDone nc C Q 74 [.ref (270), .long (x1), tf_z, .int (x3), .int (x4), .int (x5), tf_z] [] h) ∧ (¬ (lg_cmp x1 422726034283) = (0 : Int32) → ((lg_cmp x1 1869636974) = (0 : Int32) → lx_X9_isDone nc C Q 74 [.ref (270), .long (x1), tf_z, .int (x3), .int (x4), .int (x5), tf_z] [] h) ∧ (¬ (lg_cmp x1 1869636974) = (0 : Int32) → lx_X9_isDone nc C Q 96 [.ref (270), .long (x1), tf_z, .int (x3), .int (x4), .int (x5), tf_z] [] h))) : lx_X9_isDone nc C Q 58 [.ref (270), .long (x1), tf_z, .int (x3), .int (x4), .int (x5), tf_z] [] h := by
  refine tf_LW_go ?_
  exact ⟨q.1, fun c2 => ⟨fun c1 => ((q.2 c2).1 c1), (q.2 c2).2⟩⟩
set_option maxRecDepth 100000 in
theorem go_X9_isDone_74 {nc : Nat} {C : tf_C} {Q : tf_Q} {h : LH} (hn : 297 ≤ nc) {x1 : Int64} {x3 : Int32} {x4 : Int32} {x5 : Int32} (q : ((lg_cmp x1 422726034283) = (0 : Int32) → lx_X9_isDone nc C Q 91 [.ref (270), .long (x1), tf_z, .int (x3), .int (x4), .int (x5), tf_z] [.int (1), .int (6), .int (x3), .ref (270)] h) ∧ (¬ (lg_cmp x1 422726034283) = (0 : Int32) → lx_X9_isDone nc C Q 90 [.ref (270), .long (x1), tf_z, .int (x3), .int (x4), .int (x5), tf_z] [.int (6), .int (x3), .ref (270)] h)) : lx_X9_isDone nc C Q 74 [.ref (270), .long (x1), tf_z, .int (x3), .int (x4), .int (x5), tf_z] [] h := by
  refine tf_LW_go ?_
  exact ⟨fun c1 => (q.1 c1), q.2⟩
set_option maxRecDepth 100000 in
theorem go_X9_isDone_90 {nc : Nat} {C : tf_C} {Q : tf_Q} {h : LH} (hn : 297 ≤ nc) {x1 : Int64} {x3 : Int32} {x4 : Int32} {x5 : Int32} {y1 : Int32} {y2 : Int32} (q : lx_X9_isDone nc C Q 91 [.ref (270), .long (x1), tf_z, .int (x3), .int (x4), .int (x5), tf_z] [.int (0), .int (y2), .int (y1), .ref (270)] h) : lx_X9_isDone nc C Q 90 [.ref (270), .long (x1), tf_z, .int (x3), .int (x4), .int (x5), tf_z] [.int (y2), .int (y1), .ref (270)] h := by
  refine tf_LW_go ?_
  exact q
set_option maxRecDepth 100000 in
theorem go_X9_isDone_91 {nc : Nat} {C : tf_C} {Q : tf_Q} {h : LH} (hn : 297 ≤ nc) {x1 : Int64} {x3 : Int32} {x4 : Int32} {x5 : Int32} {y1 : Int32} {y2 : Int32} {y3 : Int32} (q : C 67 [.ref (270), .int (y1), .int (y2), .int (y3), .int (0)] h (fun r g => lx_X9_isDone nc C Q 95 [.ref (270), .long (x1), tf_z, .int (x3), .int (x4), .int (x5), tf_z] (r :: []) g)) : lx_X9_isDone nc C Q 91 [.ref (270), .long (x1), tf_z, .int (x3), .int (x4), .int (x5), tf_z] [.int (y3), .int (y2), .int (y1), .ref (270)] h := by
  refine tf_LW_go ?_
  exact ⟨Nat.le_of_ble_eq_true rfl, Nat.le_of_ble_eq_true rfl, q⟩
set_option maxRecDepth 100000 in
theorem go_X9_isDone_95 {nc : Nat} {C : tf_C} {Q : tf_Q} {h : LH} (hn : 297 ≤ nc) {x1 : Int64} {x3 : Int32} {x4 : Int32} {x5 : Int32} {y0 : Int32} (q : (vp_nar .boolean (y0) = (y0)) ∧ Q (.int (y0)) h) : lx_X9_isDone nc C Q 95 [.ref (270), .long (x1), tf_z, .int (x3), .int (x4), .int (x5), tf_z] [.int (y0)] h := by
  refine tf_LW_go ?_
  exact q
set_option maxRecDepth 100000 in
theorem go_X9_isDone_96 {nc : Nat} {C : tf_C} {Q : tf_Q} {h : LH} (hn : 297 ≤ nc) {x1 : Int64} {x3 : Int32} {x4 : Int32} {x5 : Int32} (q : ((lg_cmp x1 512869295470) = (0 : Int32) → C 67 [.ref (270), .int (x3), .int (2), .int (x4), .int (0)] h (fun r g => lx_X9_isDone nc C Q 113 [.ref (270), .long (x1), tf_z, .int (x3), .int (x4), .int (x5), tf_z] (r :: []) g)) ∧ (¬ (lg_cmp x1 512869295470) = (0 : Int32) → lx_X9_isDone nc C Q 114 [.ref (270), .long (x1), tf_z, .int (x3), .int (x4), .int (x5), tf_z] [] h)) : lx_X9_isDone nc C Q 96 [.ref (270), .long (x1), tf_z, .int (x3), .int (x4), .int (x5), tf_z] [] h := by
  refine tf_LW_go ?_
  exact ⟨fun c1 => ⟨Nat.le_of_ble_eq_true rfl, Nat.le_of_ble_eq_true rfl, (q.1 c1)⟩, q.2⟩
set_option maxRecDepth 100000 in
theorem go_X9_isDone_113 {nc : Nat} {C : tf_C} {Q : tf_Q} {h : LH} (hn : 297 ≤ nc) {x1 : Int64} {x3 : Int32} {x4 : Int32} {x5 : Int32} {y0 : Int32} (q : (vp_nar .boolean (y0) = (y0)) ∧ Q (.int (y0)) h) : lx_X9_isDone nc C Q 113 [.ref (270), .long (x1), tf_z, .int (x3), .int (x4), .int (x5), tf_z] [.int (y0)] h := by
  refine tf_LW_go ?_
  exact q
set_option maxRecDepth 100000 in
theorem go_X9_isDone_114 {nc : Nat} {C : tf_C} {Q : tf_Q} {h : LH} (hn : 297 ≤ nc) {x1 : Int64} {x3 : Int32} {x4 : Int32} {x5 : Int32} (q : ((lg_cmp x1 109299962636133) = (0 : Int32) → lx_X9_isDone nc C Q 130 [.ref (270), .long (x1), tf_z, .int (x3), .int (x4), .int (x5), tf_z] [] h) ∧ (¬ (lg_cmp x1 109299962636133) = (0 : Int32) → ((lg_cmp x1 1734437230) = (0 : Int32) → lx_X9_isDone nc C Q 130 [.ref (270), .long (x1), tf_z, .int (x3), .int (x4), .int (x5), tf_z] [] h) ∧ (¬ (lg_cmp x1 1734437230) = (0 : Int32) → lx_X9_isDone nc C Q 155 [.ref (270), .long (x1), tf_z, .int (x3), .int (x4), .int (x5), tf_z] [] h))) : lx_X9_isDone nc C Q 114 [.ref (270), .long (x1), tf_z, .int (x3), .int (x4), .int (x5), tf_z] [] h := by
  refine tf_LW_go ?_
  exact ⟨q.1, fun c2 => ⟨fun c1 => ((q.2 c2).1 c1), (q.2 c2).2⟩⟩
set_option maxRecDepth 100000 in
theorem go_X9_isDone_130 {nc : Nat} {C : tf_C} {Q : tf_Q} {h : LH} (hn : 297 ≤ nc) {x1 : Int64} {x3 : Int32} {x4 : Int32} {x5 : Int32} (q : ((lg_cmp x1 1734437230) = (0 : Int32) → lx_X9_isDone nc C Q 149 [.ref (270), .long (x1), tf_z, .int (x3), .int (x4), .int (x5), tf_z] [.int (-x4), .int (3), .int (x3), .ref (270)] h) ∧ (¬ (lg_cmp x1 1734437230) = (0 : Int32) → lx_X9_isDone nc C Q 147 [.ref (270), .long (x1), tf_z, .int (x3), .int (x4), .int (x5), tf_z] [.int (3), .int (x3), .ref (270)] h)) : lx_X9_isDone nc C Q 130 [.ref (270), .long (x1), tf_z, .int (x3), .int (x4), .int (x5), tf_z] [] h := by
  refine tf_LW_go ?_
  exact ⟨fun c1 => (q.1 c1), q.2⟩
set_option maxRecDepth 100000 in
theorem go_X9_isDone_147 {nc : Nat} {C : tf_C} {Q : tf_Q} {h : LH} (hn : 297 ≤ nc) {x1 : Int64} {x3 : Int32} {x4 : Int32} {x5 : Int32} {y1 : Int32} {y2 : Int32} (q : lx_X9_isDone nc C Q 149 [.ref (270), .long (x1), tf_z, .int (x3), .int (x4), .int (x5), tf_z] [.int (x4), .int (y2), .int (y1), .ref (270)] h) : lx_X9_isDone nc C Q 147 [.ref (270), .long (x1), tf_z, .int (x3), .int (x4), .int (x5), tf_z] [.int (y2), .int (y1), .ref (270)] h := by
  refine tf_LW_go ?_
  exact q
set_option maxRecDepth 100000 in
theorem go_X9_isDone_149 {nc : Nat} {C : tf_C} {Q : tf_Q} {h : LH} (hn : 297 ≤ nc) {x1 : Int64} {x3 : Int32} {x4 : Int32} {x5 : Int32} {y1 : Int32} {y2 : Int32} {y3 : Int32} (q : C 67 [.ref (270), .int (y1), .int (y2), .int (y3), .int ((-99))] h (fun r g => lx_X9_isDone nc C Q 154 [.ref (270), .long (x1), tf_z, .int (x3), .int (x4), .int (x5), tf_z] (r :: []) g)) : lx_X9_isDone nc C Q 149 [.ref (270), .long (x1), tf_z, .int (x3), .int (x4), .int (x5), tf_z] [.int (y3), .int (y2), .int (y1), .ref (270)] h := by
  refine tf_LW_go ?_
  exact ⟨Nat.le_of_ble_eq_true rfl, Nat.le_of_ble_eq_true rfl, q⟩
set_option maxRecDepth 100000 in
theorem go_X9_isDone_154 {nc : Nat} {C : tf_C} {Q : tf_Q} {h : LH} (hn : 297 ≤ nc) {x1 : Int64} {x3 : Int32} {x4 : Int32} {x5 : Int32} {y0 : Int32} (q : (vp_nar .boolean (y0) = (y0)) ∧ Q (.int (y0)) h) : lx_X9_isDone nc C Q 154 [.ref (270), .long (x1), tf_z, .int (x3), .int (x4), .int (x5), tf_z] [.int (y0)] h := by
  refine tf_LW_go ?_
  exact q
set_option maxRecDepth 100000 in
theorem go_X9_isDone_155 {nc : Nat} {C : tf_C} {Q : tf_Q} {h : LH} (hn : 297 ≤ nc) {x1 : Int64} {x3 : Int32} {x4 : Int32} {x5 : Int32} (q : ((lg_cmp x1 1668246628) = (0 : Int32) → C 52 [.ref (270), .int (0)] h (fun r g => lx_X9_isDone nc C Q 168 [.ref (270), .long (x1), tf_z, .int (x3), .int (x4), .int (x5), tf_z] [] g)) ∧ (¬ (lg_cmp x1 1668246628) = (0 : Int32) → lx_X9_isDone nc C Q 171 [.ref (270), .long (x1), tf_z, .int (x3), .int (x4), .int (x5), tf_z] [] h)) : lx_X9_isDone nc C Q 155 [.ref (270), .long (x1), tf_z, .int (x3), .int (x4), .int (x5), tf_z] [] h := by
  refine tf_LW_go ?_
  exact ⟨fun c1 => ⟨Nat.le_of_ble_eq_true rfl, Nat.le_of_ble_eq_true rfl, (q.1 c1)⟩, q.2⟩
set_option maxRecDepth 100000 in
theorem go_X9_isDone_168 {nc : Nat} {C : tf_C} {Q : tf_Q} {h : LH} (hn : 297 ≤ nc) {x1 : Int64} {x3 : Int32} {x4 : Int32} {x5 : Int32} (q : lx_X9_isDone nc C Q 181 [.ref (270), .long (x1), tf_z, .int (x3), .int (x4), .int (x5), tf_z] [] h) : lx_X9_isDone nc C Q 168 [.ref (270), .long (x1), tf_z, .int (x3), .int (x4), .int (x5), tf_z] [] h := by
  refine tf_LW_go ?_
  exact q
set_option maxRecDepth 100000 in
theorem go_X9_isDone_171 {nc : Nat} {C : tf_C} {Q : tf_Q} {h : LH} (hn : 297 ≤ nc) {x1 : Int64} {x3 : Int32} {x4 : Int32} {x5 : Int32} (q : C 17 [.long (x1)] h (fun r g => lx_X9_isDone nc C Q 180 [.ref (270), .long (x1), tf_z, .int (x3), .int (x4), .int (x5), tf_z] (r :: [.int (2), .ref (271)]) g)) : lx_X9_isDone nc C Q 171 [.ref (270), .long (x1), tf_z, .int (x3), .int (x4), .int (x5), tf_z] [] h := by
  refine tf_LW_go ?_
  exact ⟨⟨(by first | rfl | trivial), (show 270 < nc by omega)⟩, ⟨Nat.le_of_ble_eq_true rfl, Nat.le_of_ble_eq_true rfl, q⟩⟩
set_option maxRecDepth 100000 in
theorem go_X9_isDone_180 {nc : Nat} {C : tf_C} {Q : tf_Q} {h : LH} (hn : 297 ≤ nc) {x1 : Int64} {x3 : Int32} {x4 : Int32} {x5 : Int32} {y0 ny0 : Nat} {y1 : Int32} {y2 : Int32} (Ky0_0 : tf_K y0 = 8) (Ny0_0 : tf_N y0 = ny0) (By0 : y0 < nc) (q : (vp_in y1 ny0) ∧ lx_X9_isDone nc C Q 181 [.ref (270), .long (x1), tf_z, .int (x3), .int (x4), .int (x5), tf_z] [] (tf_up h.1 y0 (y1 : Int32).toNatClampNeg y2, h.2)) : lx_X9_isDone nc C Q 180 [.ref (270), .long (x1), tf_z, .int (x3), .int (x4), .int (x5), tf_z] [.int (y2), .int (y1), .ref (y0)] h := by
  refine tf_LW_go ?_
  show (tf_K y0 = 8 ∧ y0 < nc ∧ vp_in y1 (tf_N y0)) ∧ lx_X9_isDone nc C Q 181 [.ref (270), .long (x1), tf_z, .int (x3), .int (x4), .int (x5), tf_z] [] (tf_up h.1 y0 (y1 : Int32).toNatClampNeg y2, h.2)
  try simp only [Ny0_0]
  exact ⟨⟨Ky0_0, (show y0 < nc by omega), q.1⟩, q.2⟩
set_option maxRecDepth 100000 in
theorem go_X9_isDone_181 {nc : Nat} {C : tf_C} {Q : tf_Q} {h : LH} (hn : 297 ≤ nc) {x1 : Int64} {x3 : Int32} {x4 : Int32} {x5 : Int32} (q : Q (.int (1)) h) : lx_X9_isDone nc C Q 181 [.ref (270), .long (x1), tf_z, .int (x3), .int (x4), .int (x5), tf_z] [] h := by
  refine tf_LW_go ?_
  exact ⟨(by first | rfl | trivial), q⟩
abbrev lx_X9_work (nc : Nat) (C : tf_C) (Q : tf_Q) : tf_X := tf_LW nc C (tf_F 7) (tf_M 7) (tf_I 7) (tf_Eh 69) 1 tb_X9_work Q
set_option maxRecDepth 100000 in
theorem go_X9_work_0 {nc : Nat} {C : tf_C} {Q : tf_Q} {h : LH} (hn : 297 ≤ nc) (q : C 20 [.ref (270), .int (0)] (tf_up h.1 270 0 0, h.2) (fun r g => lx_X9_work nc C Q 10 [.ref (270), tf_z, tf_z] (r :: []) g)) : lx_X9_work nc C Q 0 [.ref (270), tf_z, tf_z] [] h := by
  refine tf_LW_go ?_
  exact ⟨⟨(by first | rfl | trivial), (show 270 < nc by omega), (by first | rfl | trivial)⟩, ⟨Nat.le_of_ble_eq_true rfl, Nat.le_of_ble_eq_true rfl, q⟩⟩
theorem en_X9_work {nc d : Nat} {Q : tf_Q} {h : LH} (hn : 297 ≤ nc) (q : lx_X9_work nc (tf_Cd nc d) Q 0 [.ref (270), tf_z, tf_z] [] h) : tf_Cd nc (d + 1) 69 [.ref (270)] h Q := by
  exact ⟨⟨Nat.le_of_ble_eq_true rfl, Or.inr ⟨rfl, (show 270 < nc by omega)⟩⟩, q⟩
set_option maxRecDepth 100000 in
theorem go_X9_work_10 {nc : Nat} {C : tf_C} {Q : tf_Q} {h : LH} (hn : 297 ≤ nc) {y0 : Int32} (q : (y0 = (0 : Int32) → lx_X9_work nc C Q 33 [.ref (270), .int (y0), tf_z] [.int (1), .ref (270)] h) ∧ (¬ y0 = (0 : Int32) → lx_X9_work nc C Q 20 [.ref (270), .int (y0), tf_z] [.ref (270)] h)) : lx_X9_work nc C Q 10 [.ref (270), tf_z, tf_z] [.int (y0)] h := by
  refine tf_LW_go ?_
  exact ⟨fun c1 => (q.1 c1), q.2⟩
set_option maxRecDepth 100000 in
theorem go_X9_work_20 {nc : Nat} {C : tf_C} {Q : tf_Q} {h : LH} (hn : 297 ≤ nc) {x1 : Int32} (q : ((h.1 270 13) = ((-1) : Int32) → lx_X9_work nc C Q 32 [.ref (270), .int (x1), tf_z] [.ref (270)] h) ∧ (¬ (h.1 270 13) = ((-1) : Int32) → lx_X9_work nc C Q 33 [.ref (270), .int (x1), tf_z] [.int (2), .ref (270)] h)) : lx_X9_work nc C Q 20 [.ref (270), .int (x1), tf_z] [.ref (270)] h := by
  refine tf_LW_go ?_
  exact ⟨⟨(by first | rfl | trivial), (show 270 < nc by omega)⟩, ⟨q.1, fun c1 => (q.2 c1)⟩⟩
set_option maxRecDepth 100000 in
theorem go_X9_work_32 {nc : Nat} {C : tf_C} {Q : tf_Q} {h : LH} (hn : 297 ≤ nc) {x1 : Int32} (q : lx_X9_work nc C Q 33 [.ref (270), .int (x1), tf_z] [.int (0), .ref (270)] h) : lx_X9_work nc C Q 32 [.ref (270), .int (x1), tf_z] [.ref (270)] h := by
  refine tf_LW_go ?_
  exact q
set_option maxRecDepth 100000 in
theorem go_X9_work_33 {nc : Nat} {C : tf_C} {Q : tf_Q} {h : LH} (hn : 297 ≤ nc) {x1 : Int32} {y1 : Int32} (q : (x1 = (0 : Int32) → lx_X9_work nc C Q 48 [.ref (270), .int (x1), tf_z] [.int (h.1 270 12), .int (y1), .ref (270)] h) ∧ (¬ x1 = (0 : Int32) → lx_X9_work nc C Q 44 [.ref (270), .int (x1), tf_z] [.int (y1), .ref (270)] h)) : lx_X9_work nc C Q 33 [.ref (270), .int (x1), tf_z] [.int (y1), .ref (270)] h := by
  refine tf_LW_go ?_
  exact ⟨fun c1 => ⟨⟨(by first | rfl | trivial), (show 270 < nc by omega)⟩, (q.1 c1)⟩, q.2⟩
set_option maxRecDepth 100000 in
theorem go_X9_work_44 {nc : Nat} {C : tf_C} {Q : tf_Q} {h : LH} (hn : 297 ≤ nc) {x1 : Int32} {y1 : Int32} (q : lx_X9_work nc C Q 48 [.ref (270), .int (x1), tf_z] [.int (h.1 270 13), .int (y1), .ref (270)] h) : lx_X9_work nc C Q 44 [.ref (270), .int (x1), tf_z] [.int (y1), .ref (270)] h := by
  refine tf_LW_go ?_
  exact ⟨⟨(by first | rfl | trivial), (show 270 < nc by omega)⟩, q⟩
set_option maxRecDepth 100000 in
theorem go_X9_work_48 {nc : Nat} {C : tf_C} {Q : tf_Q} {h : LH} (hn : 297 ≤ nc) {x1 : Int32} {y1 : Int32} {y2 : Int32} (q : C 22 [.ref (270), .int (y1), .int (y2)] h (fun r g => lx_X9_work nc C Q 51 [.ref (270), .int (x1), tf_z] [] g)) : lx_X9_work nc C Q 48 [.ref (270), .int (x1), tf_z] [.int (y2), .int (y1), .ref (270)] h := by
  refine tf_LW_go ?_
  exact ⟨Nat.le_of_ble_eq_true rfl, Nat.le_of_ble_eq_true rfl, q⟩
set_option maxRecDepth 100000 in
theorem go_X9_work_51 {nc : Nat} {C : tf_C} {Q : tf_Q} {h : LH} (hn : 297 ≤ nc) {x1 : Int32} (q : ((h.1 271 (171 : Int32).toNatClampNeg) = (0 : Int32) → lx_X9_work nc C Q 64 [.ref (270), .int (x1), tf_z] [] h) ∧ (¬ (h.1 271 (171 : Int32).toNatClampNeg) = (0 : Int32) → Q (.int ((-1))) h)) : lx_X9_work nc C Q 51 [.ref (270), .int (x1), tf_z] [] h := by
  refine tf_LW_go ?_
  exact ⟨⟨(by first | rfl | trivial), (show 270 < nc by omega)⟩, ⟨⟨(by first | rfl | trivial), (show 271 < nc by omega), (vp_in_iff.mpr (by decide))⟩, ⟨q.1, fun c1 => ⟨(by first | trivial | rfl), (q.2 c1)⟩⟩⟩⟩
set_option maxRecDepth 100000 in
theorem go_X9_work_64 {nc : Nat} {C : tf_C} {Q : tf_Q} {h : LH} (hn : 297 ≤ nc) {x1 : Int32} (q : C 112 [.ref (270), .int (0), .int (4)] h (fun r g => lx_X9_work nc C Q 70 [.ref (270), .int (x1), tf_z] [] g)) : lx_X9_work nc C Q 64 [.ref (270), .int (x1), tf_z] [] h := by
  refine tf_LW_go ?_
  exact ⟨Nat.le_of_ble_eq_true rfl, Nat.le_of_ble_eq_true rfl, q⟩
set_option maxRecDepth 100000 in
theorem go_X9_work_70 {nc : Nat} {C : tf_C} {Q : tf_Q} {h : LH} (hn : 297 ≤ nc) {x1 : Int32} (q : lx_X9_work nc C Q 72 [.ref (270), .int (x1), .int (0)] [] h) : lx_X9_work nc C Q 70 [.ref (270), .int (x1), tf_z] [] h := by
  refine tf_LW_go ?_
  exact q
set_option maxRecDepth 100000 in
theorem go_X9_work_72 {nc : Nat} {C : tf_C} {Q : tf_Q} {h : LH} (hn : 297 ≤ nc) {x1 : Int32} {x2 : Int32} (q : ((h.1 270 23) ≤ x2 → lx_X9_work nc C Q 127 [.ref (270), .int (x1), .int (x2)] [] h) ∧ (¬ (h.1 270 23) ≤ x2 → (vp_in x2 100) ∧ (vp_in (4 * x2) 400) ∧ (vp_in ((4 * x2) + 1) 400) ∧ (vp_in ((4 * x2) + 2) 400) ∧ C 68 [.ref (270), .long (h.2 279 (x2 : Int32).toNatClampNeg), .int (h.1 280 (4 * x2 : Int32).toNatClampNeg), .int (h.1 280 ((4 * x2) + 1 : Int32).toNatClampNeg), .int (h.1 280 ((4 * x2) + 2 : Int32).toNatClampNeg)] h (fun r g => lx_X9_work nc C Q 118 [.ref (270), .int (x1), .int (x2)] (r :: []) g))) : lx_X9_work nc C Q 72 [.ref (270), .int (x1), .int (x2)] [] h := by
  refine tf_LW_go ?_
  exact ⟨⟨(by first | rfl | trivial), (show 270 < nc by omega)⟩, ⟨q.1, fun c1 => ⟨⟨(by first | rfl | trivial), (show 270 < nc by omega)⟩, ⟨⟨(by first | rfl | trivial), (show 279 < nc by omega), (q.2 c1).1⟩, ⟨⟨(by first | rfl | trivial), (show 270 < nc by omega)⟩, ⟨⟨(by first | rfl | trivial), (show 280 < nc by omega), (q.2 c1).2.1⟩, ⟨⟨(by first | rfl | trivial), (show 270 < nc by omega)⟩, ⟨⟨(by first | rfl | trivial), (show 280 < nc by omega), (q.2 c1).2.2.1⟩, ⟨⟨(by first | rfl | trivial), (show 270 < nc by omega)⟩, ⟨⟨(by first | rfl | trivial), (show 280 < nc by omega), (q.2 c1).2.2.2.1⟩, ⟨Nat.le_of_ble_eq_true rfl, Nat.le_of_ble_eq_true rfl, (q.2 c1).2.2.2.2⟩⟩⟩⟩⟩⟩⟩⟩⟩⟩⟩
set_option maxRecDepth 100000 in
theorem go_X9_work_118 {nc : Nat} {C : tf_C} {Q : tf_Q} {h : LH} (hn : 297 ≤ nc) {x1 : Int32} {x2 : Int32} {y0 : Int32} (q : (y0 = (0 : Int32) → lx_X9_work nc C Q 127 [.ref (270), .int (x1), .int (x2)] [] h) ∧ (¬ y0 = (0 : Int32) → lx_X9_work nc C Q 72 [.ref (270), .int (x1), .int (x2 + 1)] [] h)) : lx_X9_work nc C Q 118 [.ref (270), .int (x1), .int (x2)] [.int (y0)] h := by
  refine tf_LW_go ?_
  exact ⟨q.1, fun c1 => (q.2 c1)⟩
set_option maxRecDepth 100000 in
theorem go_X9_work_127 {nc : Nat} {C : tf_C} {Q : tf_Q} {h : LH} (hn : 297 ≤ nc) {x1 : Int32} {x2 : Int32} (q : (x2 ≤ (0 : Int32) → lx_X9_work nc C Q 136 [.ref (270), .int (x1), .int (x2)] [] h) ∧ (¬ x2 ≤ (0 : Int32) → C 53 [.ref (270), .int (4)] h (fun r g => lx_X9_work nc C Q 136 [.ref (270), .int (x1), .int (x2)] [] g))) : lx_X9_work nc C Q 127 [.ref (270), .int (x1), .int (x2)] [] h := by
  refine tf_LW_go ?_
  exact ⟨q.1, fun c1 => ⟨Nat.le_of_ble_eq_true rfl, Nat.le_of_ble_eq_true rfl, (q.2 c1)⟩⟩
set_option maxRecDepth 100000 in
theorem go_X9_work_136 {nc : Nat} {C : tf_C} {Q : tf_Q} {h : LH} (hn : 297 ≤ nc) {x1 : Int32} {x2 : Int32} (q : Q (.int (x2)) h) : lx_X9_work nc C Q 136 [.ref (270), .int (x1), .int (x2)] [] h := by
  refine tf_LW_go ?_
  exact ⟨(by first | trivial | rfl), q⟩
abbrev lx_X9_undo (nc : Nat) (C : tf_C) (Q : tf_Q) : tf_X := tf_LW nc C (tf_F 7) (tf_M 7) (tf_I 7) (tf_Eh 70) 1 tb_X9_undo Q
set_option maxRecDepth 100000 in
theorem go_X9_undo_0 {nc : Nat} {C : tf_C} {Q : tf_Q} {h : LH} (hn : 297 ≤ nc) (q : (((tf_up h.1 270 0 0) 270 5) = (0 : Int32) → Q (.int ((-1))) (tf_up h.1 270 0 0, h.2)) ∧ (¬ ((tf_up h.1 270 0 0) 270 5) = (0 : Int32) → lx_X9_undo nc C Q 14 [.ref (270), tf_z] [] (tf_up h.1 270 0 0, h.2))) : lx_X9_undo nc C Q 0 [.ref (270), tf_z] [] h := by
  refine tf_LW_go ?_
  exact ⟨⟨(by first | rfl | trivial), (show 270 < nc by omega), (by first | rfl | trivial)⟩, ⟨⟨(by first | rfl | trivial), (show 270 < nc by omega)⟩, ⟨fun c1 => ⟨(by first | trivial | rfl), (q.1 c1)⟩, q.2⟩⟩⟩
theorem en_X9_undo {nc d : Nat} {Q : tf_Q} {h : LH} (hn : 297 ≤ nc) (q : lx_X9_undo nc (tf_Cd nc d) Q 0 [.ref (270), tf_z] [] h) : tf_Cd nc (d + 1) 70 [.ref (270)] h Q := by
  exact ⟨⟨Nat.le_of_ble_eq_true rfl, Or.inr ⟨rfl, (show 270 < nc by omega)⟩⟩, q⟩
set_option maxRecDepth 100000 in
theorem go_X9_undo_14 {nc : Nat} {C : tf_C} {Q : tf_Q} {h : LH} (hn : 297 ≤ nc) (q : lx_X9_undo nc C Q 26 [.ref (270), .int (0)] [] (tf_up h.1 270 5 ((h.1 270 5) - 1), h.2)) : lx_X9_undo nc C Q 14 [.ref (270), tf_z] [] h := by
  refine tf_LW_go ?_
  exact ⟨⟨(by first | rfl | trivial), (show 270 < nc by omega)⟩, ⟨⟨(by first | rfl | trivial), (show 270 < nc by omega), (by first | rfl | trivial)⟩, q⟩⟩
set_option maxRecDepth 100000 in
theorem go_X9_undo_26 {nc : Nat} {C : tf_C} {Q : tf_Q} {h : LH} (hn : 297 ≤ nc) {x1 : Int32} (q : ((170 : Int32) ≤ x1 → lx_X9_undo nc C Q 60 [.ref (270), .int (x1)] [] h) ∧ (¬ (170 : Int32) ≤ x1 → (vp_in ((170 * (h.1 270 5)) + x1) 1700) ∧ (vp_in x1 865) ∧ lx_X9_undo nc C Q 26 [.ref (270), .int (x1 + 1)] [] (tf_up h.1 271 (x1 : Int32).toNatClampNeg (h.1 274 ((170 * (h.1 270 5)) + x1 : Int32).toNatClampNeg), h.2))) : lx_X9_undo nc C Q 26 [.ref (270), .int (x1)] [] h := by
  refine tf_LW_go ?_
  exact ⟨q.1, fun c1 => ⟨⟨(by first | rfl | trivial), (show 270 < nc by omega)⟩, ⟨⟨(by first | rfl | trivial), (show 270 < nc by omega)⟩, ⟨⟨(by first | rfl | trivial), (show 270 < nc by omega)⟩, ⟨⟨(by first | rfl | trivial), (show 274 < nc by omega), (q.2 c1).1⟩, ⟨⟨(by first | rfl | trivial), (show 271 < nc by omega), (q.2 c1).2.1⟩, (q.2 c1).2.2⟩⟩⟩⟩⟩⟩
set_option maxRecDepth 100000 in
theorem go_X9_undo_60 {nc : Nat} {C : tf_C} {Q : tf_Q} {h : LH} (hn : 297 ≤ nc) {x1 : Int32} (q : Q (.int (h.1 270 5)) h) : lx_X9_undo nc C Q 60 [.ref (270), .int (x1)] [] h := by
  refine tf_LW_go ?_
  exact ⟨⟨(by first | rfl | trivial), (show 270 < nc by omega)⟩, ⟨(by first | trivial | rfl), q⟩⟩
abbrev lx_X9_unmet (nc : Nat) (C : tf_C) (Q : tf_Q) : tf_X := tf_LW nc C (tf_F 7) (tf_M 7) (tf_I 7) (tf_Eh 71) 1 tb_X9_unmet Q
set_option maxRecDepth 100000 in
theorem go_X9_unmet_0 {nc : Nat} {C : tf_C} {Q : tf_Q} {h : LH} (hn : 297 ≤ nc) (q : lx_X9_unmet nc C Q 4 [.ref (270), .int (0), .int (0)] [] h) : lx_X9_unmet nc C Q 0 [.ref (270), tf_z, tf_z] [] h := by
  refine tf_LW_go ?_
  exact q
theorem en_X9_unmet {nc d : Nat} {Q : tf_Q} {h : LH} (hn : 297 ≤ nc) (q : lx_X9_unmet nc (tf_Cd nc d) Q 0 [.ref (270), tf_z, tf_z] [] h) : tf_Cd nc (d + 1) 71 [.ref (270)] h Q := by
  exact ⟨⟨Nat.le_of_ble_eq_true rfl, Or.inr ⟨rfl, (show 270 < nc by omega)⟩⟩, q⟩
set_option maxRecDepth 100000 in
theorem go_X9_unmet_4 {nc : Nat} {C : tf_C} {Q : tf_Q} {h : LH} (hn : 297 ≤ nc) {x1 : Int32} {x2 : Int32} (q : ((h.1 271 (0 : Int32).toNatClampNeg) ≤ x2 → lx_X9_unmet nc C Q 32 [.ref (270), .int (x1), .int (x2)] [] h) ∧ (¬ (h.1 271 (0 : Int32).toNatClampNeg) ≤ x2 → (vp_in (65 + x2) 865) ∧ lx_X9_unmet nc C Q 4 [.ref (270), .int (x1 + (h.1 271 (65 + x2 : Int32).toNatClampNeg)), .int (x2 + 1)] [] h)) : lx_X9_unmet nc C Q 4 [.ref (270), .int (x1), .int (x2)] [] h := by
  refine tf_LW_go ?_
  exact ⟨⟨(by first | rfl | trivial), (show 270 < nc by omega)⟩, ⟨⟨(by first | rfl | trivial), (show 271 < nc by omega), (vp_in_iff.mpr (by decide))⟩, ⟨q.1, fun c1 => ⟨⟨(by first | rfl | trivial), (show 270 < nc by omega)⟩, ⟨⟨(by first | rfl | trivial), (show 271 < nc by omega), (q.2 c1).1⟩, (q.2 c1).2⟩⟩⟩⟩⟩
set_option maxRecDepth 100000 in
theorem go_X9_unmet_32 {nc : Nat} {C : tf_C} {Q : tf_Q} {h : LH} (hn : 297 ≤ nc) {x1 : Int32} {x2 : Int32} (q : Q (.int (x1)) h) : lx_X9_unmet nc C Q 32 [.ref (270), .int (x1), .int (x2)] [] h := by
  refine tf_LW_go ?_
  exact ⟨(by first | trivial | rfl), q⟩
abbrev lx_X9_grid (nc : Nat) (C : tf_C) (Q : tf_Q) : tf_X := tf_LW nc C (tf_F 7) (tf_M 7) (tf_I 7) (tf_Eh 72) 1 tb_X9_grid Q
set_option maxRecDepth 100000 in
theorem go_X9_grid_0 {nc : Nat} {C : tf_C} {Q : tf_Q} {h : LH} (hn : 297 ≤ nc) {x1 : Int32} (q : C 30 [.ref (270)] (tf_up h.1 270 0 0, h.2) (fun r g => lx_X9_grid nc C Q 9 [.ref (270), .int (x1)] [] g)) : lx_X9_grid nc C Q 0 [.ref (270), .int (x1)] [] h := by
  refine tf_LW_go ?_
  exact ⟨⟨(by first | rfl | trivial), (show 270 < nc by omega), (by first | rfl | trivial)⟩, ⟨Nat.le_of_ble_eq_true rfl, Nat.le_of_ble_eq_true rfl, q⟩⟩
theorem en_X9_grid {nc d : Nat} {Q : tf_Q} {h : LH} (hn : 297 ≤ nc) {x1 : Int32} (q : lx_X9_grid nc (tf_Cd nc d) Q 0 [.ref (270), .int (x1)] [] h) : tf_Cd nc (d + 1) 72 [.ref (270), .int (x1)] h Q := by
  exact ⟨⟨Nat.le_of_ble_eq_true rfl, Or.inr ⟨rfl, (show 270 < nc by omega)⟩⟩, q⟩
set_option maxRecDepth 100000 in
theorem go_X9_grid_9 {nc : Nat} {C : tf_C} {Q : tf_Q} {h : LH} (hn : 297 ≤ nc) {x1 : Int32} (q : (((x1 : Int32).toInt < 0 ∨ 11 < (x1 : Int32).toInt) → lx_X9_grid nc C Q 127 [.ref (270), .int (x1)] [] h) ∧ ((x1 : Int32).toInt = 0 → lx_X9_grid nc C Q 72 [.ref (270), .int (x1)] [] h) ∧ ((x1 : Int32).toInt = 1 → lx_X9_grid nc C Q 72 [.ref (270), .int (x1)] [] h) ∧ ((x1 : Int32).toInt = 2 → lx_X9_grid nc C Q 72 [.ref (270), .int (x1)] [] h) ∧ ((x1 : Int32).toInt = 3 → lx_X9_grid nc C Q 79 [.ref (270), .int (x1)] [] h) ∧ ((x1 : Int32).toInt = 4 → lx_X9_grid nc C Q 92 [.ref (270), .int (x1)] [] h) ∧ ((x1 : Int32).toInt = 5 → lx_X9_grid nc C Q 97 [.ref (270), .int (x1)] [] h) ∧ ((x1 : Int32).toInt = 6 → lx_X9_grid nc C Q 97 [.ref (270), .int (x1)] [] h) ∧ ((x1 : Int32).toInt = 7 → lx_X9_grid nc C Q 97 [.ref (270), .int (x1)] [] h) ∧ ((x1 : Int32).toInt = 8 → lx_X9_grid nc C Q 97 [.ref (270), .int (x1)] [] h) ∧ ((x1 : Int32).toInt = 9 → lx_X9_grid nc C Q 108 [.ref (270), .int (x1)] [] h) ∧ ((x1 : Int32).toInt = 10 → lx_X9_grid nc C Q 113 [.ref (270), .int (x1)] [] h) ∧ ((x1 : Int32).toInt = 11 → lx_X9_grid nc C Q 122 [.ref (270), .int (x1)] [] h) ∧ True) : lx_X9_grid nc C Q 9 [.ref (270), .int (x1)] [] h := by
  refine tf_LW_go ?_
  exact q
set_option maxRecDepth 100000 in
theorem go_X9_grid_72 {nc : Nat} {C : tf_C} {Q : tf_Q} {h : LH} (hn : 297 ≤ nc) {x1 : Int32} (q : (vp_in x1 865) ∧ Q (.int (h.1 271 (x1 : Int32).toNatClampNeg)) h) : lx_X9_grid nc C Q 72 [.ref (270), .int (x1)] [] h := by
  refine tf_LW_go ?_
  exact ⟨⟨(by first | rfl | trivial), (show 270 < nc by omega)⟩, ⟨⟨(by first | rfl | trivial), (show 271 < nc by omega), q.1⟩, ⟨(by first | trivial | rfl), q.2⟩⟩⟩
set_option maxRecDepth 100000 in
theorem go_X9_grid_79 {nc : Nat} {C : tf_C} {Q : tf_Q} {h : LH} (hn : 297 ≤ nc) {x1 : Int32} (q : C 34 [.ref (270)] h (fun r g => lx_X9_grid nc C Q 83 [.ref (270), .int (x1)] (r :: []) g)) : lx_X9_grid nc C Q 79 [.ref (270), .int (x1)] [] h := by
  refine tf_LW_go ?_
  exact ⟨Nat.le_of_ble_eq_true rfl, Nat.le_of_ble_eq_true rfl, q⟩
set_option maxRecDepth 100000 in
theorem go_X9_grid_83 {nc : Nat} {C : tf_C} {Q : tf_Q} {h : LH} (hn : 297 ≤ nc) {x1 : Int32} {y0 : Int32} (q : (y0 = (0 : Int32) → lx_X9_grid nc C Q 91 [.ref (270), .int (x1)] [.int (1)] h) ∧ (¬ y0 = (0 : Int32) → lx_X9_grid nc C Q 90 [.ref (270), .int (x1)] [] h)) : lx_X9_grid nc C Q 83 [.ref (270), .int (x1)] [.int (y0)] h := by
  refine tf_LW_go ?_
  exact ⟨fun c1 => (q.1 c1), q.2⟩
set_option maxRecDepth 100000 in
theorem go_X9_grid_90 {nc : Nat} {C : tf_C} {Q : tf_Q} {h : LH} (hn : 297 ≤ nc) {x1 : Int32} (q : lx_X9_grid nc C Q 91 [.ref (270), .int (x1)] [.int (0)] h) : lx_X9_grid nc C Q 90 [.ref (270), .int (x1)] [] h := by
  refine tf_LW_go ?_
  exact q
set_option maxRecDepth 100000 in
theorem go_X9_grid_91 {nc : Nat} {C : tf_C} {Q : tf_Q} {h : LH} (hn : 297 ≤ nc) {x1 : Int32} {y0 : Int32} (q : Q (.int (y0)) h) : lx_X9_grid nc C Q 91 [.ref (270), .int (x1)] [.int (y0)] h := by
  refine tf_LW_go ?_
  exact ⟨(by first | trivial | rfl), q⟩
set_option maxRecDepth 100000 in
theorem go_X9_grid_92 {nc : Nat} {C : tf_C} {Q : tf_Q} {h : LH} (hn : 297 ≤ nc) {x1 : Int32} (q : C 71 [.ref (270)] h (fun r g => lx_X9_grid nc C Q 96 [.ref (270), .int (x1)] (r :: []) g)) : lx_X9_grid nc C Q 92 [.ref (270), .int (x1)] [] h := by
  refine tf_LW_go ?_
  exact ⟨Nat.le_of_ble_eq_true rfl, Nat.le_of_ble_eq_true rfl, q⟩
set_option maxRecDepth 100000 in
theorem go_X9_grid_96 {nc : Nat} {C : tf_C} {Q : tf_Q} {h : LH} (hn : 297 ≤ nc) {x1 : Int32} {y0 : Int32} (q : Q (.int (y0)) h) : lx_X9_grid nc C Q 96 [.ref (270), .int (x1)] [.int (y0)] h := by
  refine tf_LW_go ?_
  exact ⟨(by first | trivial | rfl), q⟩
set_option maxRecDepth 100000 in
theorem go_X9_grid_97 {nc : Nat} {C : tf_C} {Q : tf_Q} {h : LH} (hn : 297 ≤ nc) {x1 : Int32} (q : (vp_in ((3 + x1) - 5) 865) ∧ Q (.int (h.1 271 ((3 + x1) - 5 : Int32).toNatClampNeg)) h) : lx_X9_grid nc C Q 97 [.ref (270), .int (x1)] [] h := by
  refine tf_LW_go ?_
  exact ⟨⟨(by first | rfl | trivial), (show 270 < nc by omega)⟩, ⟨⟨(by first | rfl | trivial), (show 271 < nc by omega), q.1⟩, ⟨(by first | trivial | rfl), q.2⟩⟩⟩
set_option maxRecDepth 100000 in
theorem go_X9_grid_108 {nc : Nat} {C : tf_C} {Q : tf_Q} {h : LH} (hn : 297 ≤ nc) {x1 : Int32} (q : C 34 [.ref (270)] h (fun r g => lx_X9_grid nc C Q 112 [.ref (270), .int (x1)] (r :: []) g)) : lx_X9_grid nc C Q 108 [.ref (270), .int (x1)] [] h := by
  refine tf_LW_go ?_
  exact ⟨Nat.le_of_ble_eq_true rfl, Nat.le_of_ble_eq_true rfl, q⟩
set_option maxRecDepth 100000 in
theorem go_X9_grid_112 {nc : Nat} {C : tf_C} {Q : tf_Q} {h : LH} (hn : 297 ≤ nc) {x1 : Int32} {y0 : Int32} (q : Q (.int (y0)) h) : lx_X9_grid nc C Q 112 [.ref (270), .int (x1)] [.int (y0)] h := by
  refine tf_LW_go ?_
  exact ⟨(by first | trivial | rfl), q⟩
set_option maxRecDepth 100000 in
theorem go_X9_grid_113 {nc : Nat} {C : tf_C} {Q : tf_Q} {h : LH} (hn : 297 ≤ nc) {x1 : Int32} (q : Q (.int (h.1 271 (170 : Int32).toNatClampNeg)) h) : lx_X9_grid nc C Q 113 [.ref (270), .int (x1)] [] h := by
  refine tf_LW_go ?_
  exact ⟨⟨(by first | rfl | trivial), (show 270 < nc by omega)⟩, ⟨⟨(by first | rfl | trivial), (show 271 < nc by omega), (vp_in_iff.mpr (by decide))⟩, ⟨(by first | trivial | rfl), q⟩⟩⟩
set_option maxRecDepth 100000 in
theorem go_X9_grid_122 {nc : Nat} {C : tf_C} {Q : tf_Q} {h : LH} (hn : 297 ≤ nc) {x1 : Int32} (q : Q (.int (h.1 270 5)) h) : lx_X9_grid nc C Q 122 [.ref (270), .int (x1)] [] h := by
  refine tf_LW_go ?_
  exact ⟨⟨(by first | rfl | trivial), (show 270 < nc by omega)⟩, ⟨(by first | trivial | rfl), q⟩⟩
set_option maxRecDepth 100000 in
theorem go_X9_grid_127 {nc : Nat} {C : tf_C} {Q : tf_Q} {h : LH} (hn : 297 ≤ nc) {x1 : Int32} (q : Q (.int ((-1))) h) : lx_X9_grid nc C Q 127 [.ref (270), .int (x1)] [] h := by
  refine tf_LW_go ?_
  exact ⟨(by first | trivial | rfl), q⟩
abbrev lx_X9_arc (nc : Nat) (C : tf_C) (Q : tf_Q) : tf_X := tf_LW nc C (tf_F 7) (tf_M 7) (tf_I 7) (tf_Eh 73) 1 tb_X9_arc Q
set_option maxRecDepth 100000 in
theorem go_X9_arc_0 {nc : Nat} {C : tf_C} {Q : tf_Q} {h : LH} (hn : 297 ≤ nc) {x1 : Int32} {x2 : Int32} (q : C 5 [.ref (270), .int (x1)] h (fun r g => lx_X9_arc nc C Q 6 [.ref (270), .int (x1), .int (x2)] (r :: [.ref (270)]) g)) : lx_X9_arc nc C Q 0 [.ref (270), .int (x1), .int (x2)] [] h := by
  refine tf_LW_go ?_
  exact ⟨Nat.le_of_ble_eq_true rfl, Nat.le_of_ble_eq_true rfl, q⟩
theorem en_X9_arc {nc d : Nat} {Q : tf_Q} {h : LH} (hn : 297 ≤ nc) {x1 : Int32} {x2 : Int32} (q : lx_X9_arc nc (tf_Cd nc d) Q 0 [.ref (270), .int (x1), .int (x2)] [] h) : tf_Cd nc (d + 1) 73 [.ref (270), .int (x1), .int (x2)] h Q := by
  exact ⟨⟨Nat.le_of_ble_eq_true rfl, Or.inr ⟨rfl, (show 270 < nc by omega)⟩⟩, q⟩
set_option maxRecDepth 100000 in
theorem go_X9_arc_6 {nc : Nat} {C : tf_C} {Q : tf_Q} {h : LH} (hn : 297 ≤ nc) {x1 : Int32} {x2 : Int32} {y1 : Int32} (q : (y1 = (0 : Int32) → lx_X9_arc nc C Q 23 [.ref (270), .int (x1), .int (x2)] [.ref (270)] h) ∧ (¬ y1 = (0 : Int32) → C 0 [.int (x2), .int (0), .int (7)] h (fun r g => lx_X9_arc nc C Q 16 [.ref (270), .int (x1), .int (x2)] (r :: [.ref (270)]) g))) : lx_X9_arc nc C Q 6 [.ref (270), .int (x1), .int (x2)] [.int (y1), .ref (270)] h := by
  refine tf_LW_go ?_
  exact ⟨q.1, fun c1 => ⟨Nat.le_of_ble_eq_true rfl, Nat.le_of_ble_eq_true rfl, (q.2 c1)⟩⟩
set_option maxRecDepth 100000 in
theorem go_X9_arc_16 {nc : Nat} {C : tf_C} {Q : tf_Q} {h : LH} (hn : 297 ≤ nc) {x1 : Int32} {x2 : Int32} {y1 : Int32} (q : (y1 = (0 : Int32) → lx_X9_arc nc C Q 23 [.ref (270), .int (x1), .int (x2)] [.ref (270)] h) ∧ (¬ y1 = (0 : Int32) → lx_X9_arc nc C Q 24 [.ref (270), .int (x1), .int (x2)] [.int (0), .ref (270)] h)) : lx_X9_arc nc C Q 16 [.ref (270), .int (x1), .int (x2)] [.int (y1), .ref (270)] h := by
  refine tf_LW_go ?_
  exact ⟨q.1, fun c1 => (q.2 c1)⟩
set_option maxRecDepth 100000 in
theorem go_X9_arc_23 {nc : Nat} {C : tf_C} {Q : tf_Q} {h : LH} (hn : 297 ≤ nc) {x1 : Int32} {x2 : Int32} (q : lx_X9_arc nc C Q 24 [.ref (270), .int (x1), .int (x2)] [.int (1), .ref (270)] h) : lx_X9_arc nc C Q 23 [.ref (270), .int (x1), .int (x2)] [.ref (270)] h := by
  refine tf_LW_go ?_
  exact q
set_option maxRecDepth 100000 in
theorem go_X9_arc_24 {nc : Nat} {C : tf_C} {Q : tf_Q} {h : LH} (hn : 297 ≤ nc) {x1 : Int32} {x2 : Int32} {y1 : Int32} (q : (((tf_up h.1 270 0 y1) 270 0) ≤ (0 : Int32) → lx_X9_arc nc C Q 36 [.ref (270), .int (x1), .int (x2)] [] (tf_up h.1 270 0 y1, h.2)) ∧ (¬ ((tf_up h.1 270 0 y1) 270 0) ≤ (0 : Int32) → Q (.int (0)) (tf_up h.1 270 0 y1, h.2))) : lx_X9_arc nc C Q 24 [.ref (270), .int (x1), .int (x2)] [.int (y1), .ref (270)] h := by
  refine tf_LW_go ?_
  exact ⟨⟨(by first | rfl | trivial), (show 270 < nc by omega), (by first | rfl | trivial)⟩, ⟨⟨(by first | rfl | trivial), (show 270 < nc by omega)⟩, ⟨q.1, fun c1 => ⟨(by first | trivial | rfl), (q.2 c1)⟩⟩⟩⟩
set_option maxRecDepth 100000 in
theorem go_X9_arc_36 {nc : Nat} {C : tf_C} {Q : tf_Q} {h : LH} (hn : 297 ≤ nc) {x1 : Int32} {x2 : Int32} (q : C 30 [.ref (270)] h (fun r g => lx_X9_arc nc C Q 40 [.ref (270), .int (x1), .int (x2)] [] g)) : lx_X9_arc nc C Q 36 [.ref (270), .int (x1), .int (x2)] [] h := by
  refine tf_LW_go ?_
  exact ⟨Nat.le_of_ble_eq_true rfl, Nat.le_of_ble_eq_true rfl, q⟩
set_option maxRecDepth 100000 in
theorem go_X9_arc_40 {nc : Nat} {C : tf_C} {Q : tf_Q} {h : LH} (hn : 297 ≤ nc) {x1 : Int32} {x2 : Int32} (q : (x2 = (5 : Int32) → C 3 [.ref (270), .int (x1), .int (6)] h (fun r g => lx_X9_arc nc C Q 52 [.ref (270), .int (x1), .int (x2)] (r :: []) g)) ∧ (¬ x2 = (5 : Int32) → lx_X9_arc nc C Q 67 [.ref (270), .int (x1), .int (x2)] [] h)) : lx_X9_arc nc C Q 40 [.ref (270), .int (x1), .int (x2)] [] h := by
  refine tf_LW_go ?_
  exact ⟨fun c1 => ⟨Nat.le_of_ble_eq_true rfl, Nat.le_of_ble_eq_true rfl, (q.1 c1)⟩, q.2⟩
set_option maxRecDepth 100000 in
theorem go_X9_arc_52 {nc : Nat} {C : tf_C} {Q : tf_Q} {h : LH} (hn : 297 ≤ nc) {x1 : Int32} {x2 : Int32} {y0 : Int32} (q : (y0 = (1 : Int32) → lx_X9_arc nc C Q 66 [.ref (270), .int (x1), .int (x2)] [.int (3)] h) ∧ (¬ y0 = (1 : Int32) → lx_X9_arc nc C Q 60 [.ref (270), .int (x1), .int (x2)] [] h)) : lx_X9_arc nc C Q 52 [.ref (270), .int (x1), .int (x2)] [.int (y0)] h := by
  refine tf_LW_go ?_
  exact ⟨fun c1 => (q.1 c1), q.2⟩
set_option maxRecDepth 100000 in
theorem go_X9_arc_60 {nc : Nat} {C : tf_C} {Q : tf_Q} {h : LH} (hn : 297 ≤ nc) {x1 : Int32} {x2 : Int32} (q : C 3 [.ref (270), .int (x1), .int (5)] h (fun r g => lx_X9_arc nc C Q 66 [.ref (270), .int (x1), .int (x2)] (r :: []) g)) : lx_X9_arc nc C Q 60 [.ref (270), .int (x1), .int (x2)] [] h := by
  refine tf_LW_go ?_
  exact ⟨Nat.le_of_ble_eq_true rfl, Nat.le_of_ble_eq_true rfl, q⟩
set_option maxRecDepth 100000 in
theorem go_X9_arc_66 {nc : Nat} {C : tf_C} {Q : tf_Q} {h : LH} (hn : 297 ≤ nc) {x1 : Int32} {x2 : Int32} {y0 : Int32} (q : Q (.int (y0)) h) : lx_X9_arc nc C Q 66 [.ref (270), .int (x1), .int (x2)] [.int (y0)] h := by
  refine tf_LW_go ?_
  exact ⟨(by first | trivial | rfl), q⟩
set_option maxRecDepth 100000 in
theorem go_X9_arc_67 {nc : Nat} {C : tf_C} {Q : tf_Q} {h : LH} (hn : 297 ≤ nc) {x1 : Int32} {x2 : Int32} (q : (x2 = (6 : Int32) → C 31 [.ref (270), .int (x1)] h (fun r g => lx_X9_arc nc C Q 78 [.ref (270), .int (x1), .int (x2)] (r :: []) g)) ∧ (¬ x2 = (6 : Int32) → lx_X9_arc nc C Q 81 [.ref (270), .int (x1), .int (x2)] [] h)) : lx_X9_arc nc C Q 67 [.ref (270), .int (x1), .int (x2)] [] h := by
  refine tf_LW_go ?_
  exact ⟨fun c1 => ⟨Nat.le_of_ble_eq_true rfl, Nat.le_of_ble_eq_true rfl, (q.1 c1)⟩, q.2⟩
set_option maxRecDepth 100000 in
theorem go_X9_arc_78 {nc : Nat} {C : tf_C} {Q : tf_Q} {h : LH} (hn : 297 ≤ nc) {x1 : Int32} {x2 : Int32} {y0 : Int32} (q : lx_X9_arc nc C Q 109 [.ref (270), .int (x1), .int (x2)] [.int (y0)] h) : lx_X9_arc nc C Q 78 [.ref (270), .int (x1), .int (x2)] [.int (y0)] h := by
  refine tf_LW_go ?_
  exact q
set_option maxRecDepth 100000 in
theorem go_X9_arc_81 {nc : Nat} {C : tf_C} {Q : tf_Q} {h : LH} (hn : 297 ≤ nc) {x1 : Int32} {x2 : Int32} (q : (x2 = (7 : Int32) → C 32 [.ref (270), .int (x1)] h (fun r g => lx_X9_arc nc C Q 92 [.ref (270), .int (x1), .int (x2)] (r :: []) g)) ∧ (¬ x2 = (7 : Int32) → lx_X9_arc nc C Q 103 [.ref (270), .int (x1), .int (x2)] [] h)) : lx_X9_arc nc C Q 81 [.ref (270), .int (x1), .int (x2)] [] h := by
  refine tf_LW_go ?_
  exact ⟨fun c1 => ⟨Nat.le_of_ble_eq_true rfl, Nat.le_of_ble_eq_true rfl, (q.1 c1)⟩, q.2⟩
set_option maxRecDepth 100000 in
theorem go_X9_arc_92 {nc : Nat} {C : tf_C} {Q : tf_Q} {h : LH} (hn : 297 ≤ nc) {x1 : Int32} {x2 : Int32} {y0 : Int32} (q : (y0 = (0 : Int32) → lx_X9_arc nc C Q 99 [.ref (270), .int (x1), .int (x2)] [] h) ∧ (¬ y0 = (0 : Int32) → lx_X9_arc nc C Q 109 [.ref (270), .int (x1), .int (x2)] [.int (1)] h)) : lx_X9_arc nc C Q 92 [.ref (270), .int (x1), .int (x2)] [.int (y0)] h := by
  refine tf_LW_go ?_
  exact ⟨q.1, fun c1 => (q.2 c1)⟩
set_option maxRecDepth 100000 in
theorem go_X9_arc_99 {nc : Nat} {C : tf_C} {Q : tf_Q} {h : LH} (hn : 297 ≤ nc) {x1 : Int32} {x2 : Int32} (q : lx_X9_arc nc C Q 109 [.ref (270), .int (x1), .int (x2)] [.int (0)] h) : lx_X9_arc nc C Q 99 [.ref (270), .int (x1), .int (x2)] [] h := by
  refine tf_LW_go ?_
  exact q
set_option maxRecDepth 100000 in
theorem go_X9_arc_103 {nc : Nat} {C : tf_C} {Q : tf_Q} {h : LH} (hn : 297 ≤ nc) {x1 : Int32} {x2 : Int32} (q : C 3 [.ref (270), .int (x1), .int (x2)] h (fun r g => lx_X9_arc nc C Q 109 [.ref (270), .int (x1), .int (x2)] (r :: []) g)) : lx_X9_arc nc C Q 103 [.ref (270), .int (x1), .int (x2)] [] h := by
  refine tf_LW_go ?_
  exact ⟨Nat.le_of_ble_eq_true rfl, Nat.le_of_ble_eq_true rfl, q⟩
set_option maxRecDepth 100000 in
theorem go_X9_arc_109 {nc : Nat} {C : tf_C} {Q : tf_Q} {h : LH} (hn : 297 ≤ nc) {x1 : Int32} {x2 : Int32} {y0 : Int32} (q : Q (.int (y0)) h) : lx_X9_arc nc C Q 109 [.ref (270), .int (x1), .int (x2)] [.int (y0)] h := by
  refine tf_LW_go ?_
  exact ⟨(by first | trivial | rfl), q⟩
abbrev lx_X9_below (nc : Nat) (C : tf_C) (Q : tf_Q) : tf_X := tf_LW nc C (tf_F 7) (tf_M 7) (tf_I 7) (tf_Eh 74) 1 tb_X9_below Q
set_option maxRecDepth 100000 in
theorem go_X9_below_0 {nc : Nat} {C : tf_C} {Q : tf_Q} {h : LH} (hn : 297 ≤ nc) {x1 : Int32} (q : lx_X9_below nc C Q 4 [.ref (270), .int (x1), .int (0), .int (0), tf_z] [] h) : lx_X9_below nc C Q 0 [.ref (270), .int (x1), tf_z, tf_z, tf_z] [] h := by
  refine tf_LW_go ?_
  exact q
theorem en_X9_below {nc d : Nat} {Q : tf_Q} {h : LH} (hn : 297 ≤ nc) {x1 : Int32} (q : lx_X9_below nc (tf_Cd nc d) Q 0 [.ref (270), .int (x1), tf_z, tf_z, tf_z] [] h) : tf_Cd nc (d + 1) 74 [.ref (270), .int (x1)] h Q := by
  exact ⟨⟨Nat.le_of_ble_eq_true rfl, Or.inr ⟨rfl, (show 270 < nc by omega)⟩⟩, q⟩
set_option maxRecDepth 100000 in
theorem go_X9_below_4 {nc : Nat} {C : tf_C} {Q : tf_Q} {h : LH} (hn : 297 ≤ nc) {x1 : Int32} {x2 : Int32} {x3 : Int32} {x4 : Value} (q : ((h.1 271 (0 : Int32).toNatClampNeg) ≤ x3 → lx_X9_below nc C Q 64 [.ref (270), .int (x1), .int (x2), .int (x3), x4] [] h) ∧ (¬ (h.1 271 (0 : Int32).toNatClampNeg) ≤ x3 → lx_X9_below nc C Q 17 [.ref (270), .int (x1), .int (x2), .int (x3), .int (x3)] [] h)) : lx_X9_below nc C Q 4 [.ref (270), .int (x1), .int (x2), .int (x3), x4] [] h := by
  refine tf_LW_go ?_
  exact ⟨⟨(by first | rfl | trivial), (show 270 < nc by omega)⟩, ⟨⟨(by first | rfl | trivial), (show 271 < nc by omega), (vp_in_iff.mpr (by decide))⟩, ⟨q.1, fun c1 => (q.2 c1)⟩⟩⟩
set_option maxRecDepth 100000 in
theorem go_X9_below_17 {nc : Nat} {C : tf_C} {Q : tf_Q} {h : LH} (hn : 297 ≤ nc) {x1 : Int32} {x2 : Int32} {x3 : Int32} {x4 : Int32} (q : C 26 [.ref (270)] h (fun r g => lx_X9_below nc C Q 23 [.ref (270), .int (x1), .int (x2), .int (x3), .int (x4)] (r :: [.int (x4)]) g)) : lx_X9_below nc C Q 17 [.ref (270), .int (x1), .int (x2), .int (x3), .int (x4)] [] h := by
  refine tf_LW_go ?_
  exact ⟨Nat.le_of_ble_eq_true rfl, Nat.le_of_ble_eq_true rfl, q⟩
set_option maxRecDepth 100000 in
theorem go_X9_below_23 {nc : Nat} {C : tf_C} {Q : tf_Q} {h : LH} (hn : 297 ≤ nc) {x1 : Int32} {x2 : Int32} {x3 : Int32} {x4 : Int32} {y0 : Int32} {y1 : Int32} (q : (y0 = y1 → lx_X9_below nc C Q 44 [.ref (270), .int (x1), .int (x2), .int (x3), .int (x4)] [] h) ∧ (¬ y0 = y1 → (x4 = x1 → lx_X9_below nc C Q 44 [.ref (270), .int (x1), .int (x2), .int (x3), .int (x4)] [] h) ∧ (¬ x4 = x1 → (vp_in x4 8) ∧ lx_X9_below nc C Q 17 [.ref (270), .int (x1), .int (x2), .int (x3), .int (h.1 281 (x4 : Int32).toNatClampNeg)] [] h))) : lx_X9_below nc C Q 23 [.ref (270), .int (x1), .int (x2), .int (x3), .int (x4)] [.int (y1), .int (y0)] h := by
  refine tf_LW_go ?_
  exact ⟨q.1, fun c2 => ⟨(q.2 c2).1, fun c1 => ⟨⟨(by first | rfl | trivial), (show 270 < nc by omega)⟩, ⟨⟨(by first | rfl | trivial), (show 281 < nc by omega), ((q.2 c2).2 c1).1⟩, ((q.2 c2).2 c1).2⟩⟩⟩⟩
set_option maxRecDepth 100000 in
theorem go_X9_below_44 {nc : Nat} {C : tf_C} {Q : tf_Q} {h : LH} (hn : 297 ≤ nc) {x1 : Int32} {x2 : Int32} {x3 : Int32} {x4 : Int32} (q : (x4 = x1 → lx_X9_below nc C Q 56 [.ref (270), .int (x1), .int (x2), .int (x3), .int (x4)] [.int (1), .int (x2)] h) ∧ (¬ x4 = x1 → lx_X9_below nc C Q 55 [.ref (270), .int (x1), .int (x2), .int (x3), .int (x4)] [.int (x2)] h)) : lx_X9_below nc C Q 44 [.ref (270), .int (x1), .int (x2), .int (x3), .int (x4)] [] h := by
  refine tf_LW_go ?_
  exact ⟨fun c1 => (q.1 c1), q.2⟩
set_option maxRecDepth 100000 in
theorem go_X9_below_55 {nc : Nat} {C : tf_C} {Q : tf_Q} {h : LH} (hn : 297 ≤ nc) {x1 : Int32} {x2 : Int32} {x3 : Int32} {x4 : Int32} {y0 : Int32} (q : lx_X9_below nc C Q 56 [.ref (270), .int (x1), .int (x2), .int (x3), .int (x4)] [.int (0), .int (y0)] h) : lx_X9_below nc C Q 55 [.ref (270), .int (x1), .int (x2), .int (x3), .int (x4)] [.int (y0)] h := by
  refine tf_LW_go ?_
  exact q
set_option maxRecDepth 100000 in
theorem go_X9_below_56 {nc : Nat} {C : tf_C} {Q : tf_Q} {h : LH} (hn : 297 ≤ nc) {x1 : Int32} {x2 : Int32} {x3 : Int32} {x4 : Int32} {y0 : Int32} {y1 : Int32} (q : lx_X9_below nc C Q 4 [.ref (270), .int (x1), .int (y0 + y1), .int (x3 + 1), .int (x4)] [] h) : lx_X9_below nc C Q 56 [.ref (270), .int (x1), .int (x2), .int (x3), .int (x4)] [.int (y1), .int (y0)] h := by
  refine tf_LW_go ?_
  exact q
set_option maxRecDepth 100000 in
theorem go_X9_below_64 {nc : Nat} {C : tf_C} {Q : tf_Q} {h : LH} (hn : 297 ≤ nc) {x1 : Int32} {x2 : Int32} {x3 : Int32} {x4 : Value} (q : Q (.int (x2)) h) : lx_X9_below nc C Q 64 [.ref (270), .int (x1), .int (x2), .int (x3), x4] [] h := by
  refine tf_LW_go ?_
  exact ⟨(by first | trivial | rfl), q⟩
abbrev lx_X9_point (nc : Nat) (C : tf_C) (Q : tf_Q) : tf_X := tf_LW nc C (tf_F 7) (tf_M 7) (tf_I 7) (tf_Eh 75) 1 tb_X9_point Q
set_option maxRecDepth 100000 in
theorem go_X9_point_0 {nc : Nat} {C : tf_C} {Q : tf_Q} {h : LH} (hn : 297 ≤ nc) {x1 : Int32} {x2 : Int32} (q : C 6 [.ref (270), .int (x1)] h (fun r g => lx_X9_point nc C Q 6 [.ref (270), .int (x1), .int (x2)] (r :: [.ref (270)]) g)) : lx_X9_point nc C Q 0 [.ref (270), .int (x1), .int (x2)] [] h := by
  refine tf_LW_go ?_
  exact ⟨Nat.le_of_ble_eq_true rfl, Nat.le_of_ble_eq_true rfl, q⟩
theorem en_X9_point {nc d : Nat} {Q : tf_Q} {h : LH} (hn : 297 ≤ nc) {x1 : Int32} {x2 : Int32} (q : lx_X9_point nc (tf_Cd nc d) Q 0 [.ref (270), .int (x1), .int (x2)] [] h) : tf_Cd nc (d + 1) 75 [.ref (270), .int (x1), .int (x2)] h Q := by
  exact ⟨⟨Nat.le_of_ble_eq_true rfl, Or.inr ⟨rfl, (show 270 < nc by omega)⟩⟩, q⟩
set_option maxRecDepth 100000 in
theorem go_X9_point_6 {nc : Nat} {C : tf_C} {Q : tf_Q} {h : LH} (hn : 297 ≤ nc) {x1 : Int32} {x2 : Int32} {y1 : Int32} (q : (y1 = (0 : Int32) → lx_X9_point nc C Q 23 [.ref (270), .int (x1), .int (x2)] [.ref (270)] h) ∧ (¬ y1 = (0 : Int32) → C 0 [.int (x2), .int (0), .int (6)] h (fun r g => lx_X9_point nc C Q 16 [.ref (270), .int (x1), .int (x2)] (r :: [.ref (270)]) g))) : lx_X9_point nc C Q 6 [.ref (270), .int (x1), .int (x2)] [.int (y1), .ref (270)] h := by
  refine tf_LW_go ?_
  exact ⟨q.1, fun c1 => ⟨Nat.le_of_ble_eq_true rfl, Nat.le_of_ble_eq_true rfl, (q.2 c1)⟩⟩
set_option maxRecDepth 100000 in
theorem go_X9_point_16 {nc : Nat} {C : tf_C} {Q : tf_Q} {h : LH} (hn : 297 ≤ nc) {x1 : Int32} {x2 : Int32} {y1 : Int32} (q : (y1 = (0 : Int32) → lx_X9_point nc C Q 23 [.ref (270), .int (x1), .int (x2)] [.ref (270)] h) ∧ (¬ y1 = (0 : Int32) → lx_X9_point nc C Q 24 [.ref (270), .int (x1), .int (x2)] [.int (0), .ref (270)] h)) : lx_X9_point nc C Q 16 [.ref (270), .int (x1), .int (x2)] [.int (y1), .ref (270)] h := by
  refine tf_LW_go ?_
  exact ⟨q.1, fun c1 => (q.2 c1)⟩
set_option maxRecDepth 100000 in
theorem go_X9_point_23 {nc : Nat} {C : tf_C} {Q : tf_Q} {h : LH} (hn : 297 ≤ nc) {x1 : Int32} {x2 : Int32} (q : lx_X9_point nc C Q 24 [.ref (270), .int (x1), .int (x2)] [.int (1), .ref (270)] h) : lx_X9_point nc C Q 23 [.ref (270), .int (x1), .int (x2)] [.ref (270)] h := by
  refine tf_LW_go ?_
  exact q
set_option maxRecDepth 100000 in
theorem go_X9_point_24 {nc : Nat} {C : tf_C} {Q : tf_Q} {h : LH} (hn : 297 ≤ nc) {x1 : Int32} {x2 : Int32} {y1 : Int32} (q : (((tf_up h.1 270 0 y1) 270 0) ≤ (0 : Int32) → lx_X9_point nc C Q 36 [.ref (270), .int (x1), .int (x2)] [] (tf_up h.1 270 0 y1, h.2)) ∧ (¬ ((tf_up h.1 270 0 y1) 270 0) ≤ (0 : Int32) → Q (.int (0)) (tf_up h.1 270 0 y1, h.2))) : lx_X9_point nc C Q 24 [.ref (270), .int (x1), .int (x2)] [.int (y1), .ref (270)] h := by
  refine tf_LW_go ?_
  exact ⟨⟨(by first | rfl | trivial), (show 270 < nc by omega), (by first | rfl | trivial)⟩, ⟨⟨(by first | rfl | trivial), (show 270 < nc by omega)⟩, ⟨q.1, fun c1 => ⟨(by first | trivial | rfl), (q.2 c1)⟩⟩⟩⟩
set_option maxRecDepth 100000 in
theorem go_X9_point_36 {nc : Nat} {C : tf_C} {Q : tf_Q} {h : LH} (hn : 297 ≤ nc) {x1 : Int32} {x2 : Int32} (q : C 30 [.ref (270)] h (fun r g => lx_X9_point nc C Q 40 [.ref (270), .int (x1), .int (x2)] [] g)) : lx_X9_point nc C Q 36 [.ref (270), .int (x1), .int (x2)] [] h := by
  refine tf_LW_go ?_
  exact ⟨Nat.le_of_ble_eq_true rfl, Nat.le_of_ble_eq_true rfl, q⟩
set_option maxRecDepth 100000 in
theorem go_X9_point_40 {nc : Nat} {C : tf_C} {Q : tf_Q} {h : LH} (hn : 297 ≤ nc) {x1 : Int32} {x2 : Int32} (q : (((x2 : Int32).toInt < 0 ∨ 5 < (x2 : Int32).toInt) → lx_X9_point nc C Q 124 [.ref (270), .int (x1), .int (x2)] [] h) ∧ ((x2 : Int32).toInt = 0 → lx_X9_point nc C Q 80 [.ref (270), .int (x1), .int (x2)] [] h) ∧ ((x2 : Int32).toInt = 1 → lx_X9_point nc C Q 90 [.ref (270), .int (x1), .int (x2)] [] h) ∧ ((x2 : Int32).toInt = 2 → lx_X9_point nc C Q 97 [.ref (270), .int (x1), .int (x2)] [] h) ∧ ((x2 : Int32).toInt = 3 → lx_X9_point nc C Q 104 [.ref (270), .int (x1), .int (x2)] [] h) ∧ ((x2 : Int32).toInt = 4 → lx_X9_point nc C Q 111 [.ref (270), .int (x1), .int (x2)] [] h) ∧ ((x2 : Int32).toInt = 5 → lx_X9_point nc C Q 118 [.ref (270), .int (x1), .int (x2)] [] h) ∧ True) : lx_X9_point nc C Q 40 [.ref (270), .int (x1), .int (x2)] [] h := by
  refine tf_LW_go ?_
  exact q
set_option maxRecDepth 100000 in
theorem go_X9_point_80 {nc : Nat} {C : tf_C} {Q : tf_Q} {h : LH} (hn : 297 ≤ nc) {x1 : Int32} {x2 : Int32} (q : (vp_in (44 + x1) 865) ∧ Q (.int (h.1 271 (44 + x1 : Int32).toNatClampNeg)) h) : lx_X9_point nc C Q 80 [.ref (270), .int (x1), .int (x2)] [] h := by
  refine tf_LW_go ?_
  exact ⟨⟨(by first | rfl | trivial), (show 270 < nc by omega)⟩, ⟨⟨(by first | rfl | trivial), (show 271 < nc by omega), q.1⟩, ⟨(by first | trivial | rfl), q.2⟩⟩⟩
set_option maxRecDepth 100000 in
theorem go_X9_point_90 {nc : Nat} {C : tf_C} {Q : tf_Q} {h : LH} (hn : 297 ≤ nc) {x1 : Int32} {x2 : Int32} (q : (vp_in x1 8) ∧ Q (.int (h.1 284 (x1 : Int32).toNatClampNeg)) h) : lx_X9_point nc C Q 90 [.ref (270), .int (x1), .int (x2)] [] h := by
  refine tf_LW_go ?_
  exact ⟨⟨(by first | rfl | trivial), (show 270 < nc by omega)⟩, ⟨⟨(by first | rfl | trivial), (show 284 < nc by omega), q.1⟩, ⟨(by first | trivial | rfl), q.2⟩⟩⟩
set_option maxRecDepth 100000 in
theorem go_X9_point_97 {nc : Nat} {C : tf_C} {Q : tf_Q} {h : LH} (hn : 297 ≤ nc) {x1 : Int32} {x2 : Int32} (q : (vp_in x1 8) ∧ Q (.int (h.1 281 (x1 : Int32).toNatClampNeg)) h) : lx_X9_point nc C Q 97 [.ref (270), .int (x1), .int (x2)] [] h := by
  refine tf_LW_go ?_
  exact ⟨⟨(by first | rfl | trivial), (show 270 < nc by omega)⟩, ⟨⟨(by first | rfl | trivial), (show 281 < nc by omega), q.1⟩, ⟨(by first | trivial | rfl), q.2⟩⟩⟩
set_option maxRecDepth 100000 in
theorem go_X9_point_104 {nc : Nat} {C : tf_C} {Q : tf_Q} {h : LH} (hn : 297 ≤ nc) {x1 : Int32} {x2 : Int32} (q : (vp_in x1 8) ∧ Q (.int (h.1 282 (x1 : Int32).toNatClampNeg)) h) : lx_X9_point nc C Q 104 [.ref (270), .int (x1), .int (x2)] [] h := by
  refine tf_LW_go ?_
  exact ⟨⟨(by first | rfl | trivial), (show 270 < nc by omega)⟩, ⟨⟨(by first | rfl | trivial), (show 282 < nc by omega), q.1⟩, ⟨(by first | trivial | rfl), q.2⟩⟩⟩
set_option maxRecDepth 100000 in
theorem go_X9_point_111 {nc : Nat} {C : tf_C} {Q : tf_Q} {h : LH} (hn : 297 ≤ nc) {x1 : Int32} {x2 : Int32} (q : (vp_in x1 8) ∧ Q (.int (h.1 283 (x1 : Int32).toNatClampNeg)) h) : lx_X9_point nc C Q 111 [.ref (270), .int (x1), .int (x2)] [] h := by
  refine tf_LW_go ?_
  exact ⟨⟨(by first | rfl | trivial), (show 270 < nc by omega)⟩, ⟨⟨(by first | rfl | trivial), (show 283 < nc by omega), q.1⟩, ⟨(by first | trivial | rfl), q.2⟩⟩⟩
set_option maxRecDepth 100000 in
theorem go_X9_point_118 {nc : Nat} {C : tf_C} {Q : tf_Q} {h : LH} (hn : 297 ≤ nc) {x1 : Int32} {x2 : Int32} (q : C 74 [.ref (270), .int (x1)] h (fun r g => lx_X9_point nc C Q 123 [.ref (270), .int (x1), .int (x2)] (r :: []) g)) : lx_X9_point nc C Q 118 [.ref (270), .int (x1), .int (x2)] [] h := by
  refine tf_LW_go ?_
  exact ⟨Nat.le_of_ble_eq_true rfl, Nat.le_of_ble_eq_true rfl, q⟩
set_option maxRecDepth 100000 in
theorem go_X9_point_123 {nc : Nat} {C : tf_C} {Q : tf_Q} {h : LH} (hn : 297 ≤ nc) {x1 : Int32} {x2 : Int32} {y0 : Int32} (q : Q (.int (y0)) h) : lx_X9_point nc C Q 123 [.ref (270), .int (x1), .int (x2)] [.int (y0)] h := by
  refine tf_LW_go ?_
  exact ⟨(by first | trivial | rfl), q⟩
set_option maxRecDepth 100000 in
theorem go_X9_point_124 {nc : Nat} {C : tf_C} {Q : tf_Q} {h : LH} (hn : 297 ≤ nc) {x1 : Int32} {x2 : Int32} (q : (vp_in (65 + x1) 865) ∧ (vp_in (58 + x1) 865) ∧ Q (.int ((h.1 271 (65 + x1 : Int32).toNatClampNeg) * (h.1 271 (58 + x1 : Int32).toNatClampNeg))) h) : lx_X9_point nc C Q 124 [.ref (270), .int (x1), .int (x2)] [] h := by
  refine tf_LW_go ?_
  exact ⟨⟨(by first | rfl | trivial), (show 270 < nc by omega)⟩, ⟨⟨(by first | rfl | trivial), (show 271 < nc by omega), q.1⟩, ⟨⟨(by first | rfl | trivial), (show 270 < nc by omega)⟩, ⟨⟨(by first | rfl | trivial), (show 271 < nc by omega), q.2.1⟩, ⟨(by first | trivial | rfl), q.2.2⟩⟩⟩⟩⟩
abbrev lx_X9_childOf (nc : Nat) (C : tf_C) (Q : tf_Q) : tf_X := tf_LW nc C (tf_F 7) (tf_M 7) (tf_I 7) (tf_Eh 76) 1 tb_X9_childOf Q
set_option maxRecDepth 100000 in
theorem go_X9_childOf_0 {nc : Nat} {C : tf_C} {Q : tf_Q} {h : LH} (hn : 297 ≤ nc) {x1 : Int32} {x2 : Int32} (q : lx_X9_childOf nc C Q 4 [.ref (270), .int (x1), .int (x2), .int (x2 + 1)] [] h) : lx_X9_childOf nc C Q 0 [.ref (270), .int (x1), .int (x2), tf_z] [] h := by
  refine tf_LW_go ?_
  exact q
theorem en_X9_childOf {nc d : Nat} {Q : tf_Q} {h : LH} (hn : 297 ≤ nc) {x1 : Int32} {x2 : Int32} (q : lx_X9_childOf nc (tf_Cd nc d) Q 0 [.ref (270), .int (x1), .int (x2), tf_z] [] h) : tf_Cd nc (d + 1) 76 [.ref (270), .int (x1), .int (x2)] h Q := by
  exact ⟨⟨Nat.le_of_ble_eq_true rfl, Or.inr ⟨rfl, (show 270 < nc by omega)⟩⟩, q⟩
set_option maxRecDepth 100000 in
theorem go_X9_childOf_4 {nc : Nat} {C : tf_C} {Q : tf_Q} {h : LH} (hn : 297 ≤ nc) {x1 : Int32} {x2 : Int32} {x3 : Int32} (q : ((h.1 271 (0 : Int32).toNatClampNeg) ≤ x3 → lx_X9_childOf nc C Q 32 [.ref (270), .int (x1), .int (x2), .int (x3)] [] h) ∧ (¬ (h.1 271 (0 : Int32).toNatClampNeg) ≤ x3 → (vp_in x3 8) ∧ ((h.1 281 (x3 : Int32).toNatClampNeg) = x1 → Q (.int (x3)) h) ∧ (¬ (h.1 281 (x3 : Int32).toNatClampNeg) = x1 → lx_X9_childOf nc C Q 26 [.ref (270), .int (x1), .int (x2), .int (x3)] [] h))) : lx_X9_childOf nc C Q 4 [.ref (270), .int (x1), .int (x2), .int (x3)] [] h := by
  refine tf_LW_go ?_
  exact ⟨⟨(by first | rfl | trivial), (show 270 < nc by omega)⟩, ⟨⟨(by first | rfl | trivial), (show 271 < nc by omega), (vp_in_iff.mpr (by decide))⟩, ⟨q.1, fun c2 => ⟨⟨(by first | rfl | trivial), (show 270 < nc by omega)⟩, ⟨⟨(by first | rfl | trivial), (show 281 < nc by omega), (q.2 c2).1⟩, ⟨fun c1 => ⟨(by first | trivial | rfl), ((q.2 c2).2.1 c1)⟩, (q.2 c2).2.2⟩⟩⟩⟩⟩⟩
set_option maxRecDepth 100000 in
theorem go_X9_childOf_26 {nc : Nat} {C : tf_C} {Q : tf_Q} {h : LH} (hn : 297 ≤ nc) {x1 : Int32} {x2 : Int32} {x3 : Int32} (q : lx_X9_childOf nc C Q 4 [.ref (270), .int (x1), .int (x2), .int (x3 + 1)] [] h) : lx_X9_childOf nc C Q 26 [.ref (270), .int (x1), .int (x2), .int (x3)] [] h := by
  refine tf_LW_go ?_
  exact q
set_option maxRecDepth 100000 in
theorem go_X9_childOf_32 {nc : Nat} {C : tf_C} {Q : tf_Q} {h : LH} (hn : 297 ≤ nc) {x1 : Int32} {x2 : Int32} {x3 : Int32} (q : Q (.int ((-1))) h) : lx_X9_childOf nc C Q 32 [.ref (270), .int (x1), .int (x2), .int (x3)] [] h := by
  refine tf_LW_go ?_
  exact ⟨(by first | trivial | rfl), q⟩
abbrev lx_X9_thread (nc : Nat) (C : tf_C) (Q : tf_Q) : tf_X := tf_LW nc C (tf_F 7) (tf_M 7) (tf_I 7) (tf_Eh 77) 1 tb_X9_thread Q
set_option maxRecDepth 100000 in
theorem go_X9_thread_0 {nc : Nat} {C : tf_C} {Q : tf_Q} {h : LH} (hn : 297 ≤ nc) {x1 : Int32} (q : C 0 [.int (x1), .int (0), .int (((tf_up h.1 270 0 0) 271 (0 : Int32).toNatClampNeg) - 1)] (tf_up h.1 270 0 0, h.2) (fun r g => lx_X9_thread nc C Q 18 [.ref (270), .int (x1), tf_z, tf_z, tf_z] (r :: []) g)) : lx_X9_thread nc C Q 0 [.ref (270), .int (x1), tf_z, tf_z, tf_z] [] h := by
  refine tf_LW_go ?_
  exact ⟨⟨(by first | rfl | trivial), (show 270 < nc by omega), (by first | rfl | trivial)⟩, ⟨⟨(by first | rfl | trivial), (show 270 < nc by omega)⟩, ⟨⟨(by first | rfl | trivial), (show 271 < nc by omega), (vp_in_iff.mpr (by decide))⟩, ⟨Nat.le_of_ble_eq_true rfl, Nat.le_of_ble_eq_true rfl, q⟩⟩⟩⟩
theorem en_X9_thread {nc d : Nat} {Q : tf_Q} {h : LH} (hn : 297 ≤ nc) {x1 : Int32} (q : lx_X9_thread nc (tf_Cd nc d) Q 0 [.ref (270), .int (x1), tf_z, tf_z, tf_z] [] h) : tf_Cd nc (d + 1) 77 [.ref (270), .int (x1)] h Q := by
  exact ⟨⟨Nat.le_of_ble_eq_true rfl, Or.inr ⟨rfl, (show 270 < nc by omega)⟩⟩, q⟩
set_option maxRecDepth 100000 in
theorem go_X9_thread_18 {nc : Nat} {C : tf_C} {Q : tf_Q} {h : LH} (hn : 297 ≤ nc) {x1 : Int32} {y0 : Int32} (q : (y0 = (0 : Int32) → Q (.int ((-1))) h) ∧ (¬ y0 = (0 : Int32) → lx_X9_thread nc C Q 23 [.ref (270), .int (x1), tf_z, tf_z, tf_z] [] h)) : lx_X9_thread nc C Q 18 [.ref (270), .int (x1), tf_z, tf_z, tf_z] [.int (y0)] h := by
  refine tf_LW_go ?_
  exact ⟨fun c1 => ⟨(by first | trivial | rfl), (q.1 c1)⟩, q.2⟩
set_option maxRecDepth 100000 in
theorem go_X9_thread_23 {nc : Nat} {C : tf_C} {Q : tf_Q} {h : LH} (hn : 297 ≤ nc) {x1 : Int32} (q : C 30 [.ref (270)] h (fun r g => lx_X9_thread nc C Q 27 [.ref (270), .int (x1), tf_z, tf_z, tf_z] [] g)) : lx_X9_thread nc C Q 23 [.ref (270), .int (x1), tf_z, tf_z, tf_z] [] h := by
  refine tf_LW_go ?_
  exact ⟨Nat.le_of_ble_eq_true rfl, Nat.le_of_ble_eq_true rfl, q⟩
set_option maxRecDepth 100000 in
theorem go_X9_thread_27 {nc : Nat} {C : tf_C} {Q : tf_Q} {h : LH} (hn : 297 ≤ nc) {x1 : Int32} (q : C 26 [.ref (270)] h (fun r g => lx_X9_thread nc C Q 32 [.ref (270), .int (x1), tf_z, tf_z, tf_z] (r :: [.ref (270)]) g)) : lx_X9_thread nc C Q 27 [.ref (270), .int (x1), tf_z, tf_z, tf_z] [] h := by
  refine tf_LW_go ?_
  exact ⟨Nat.le_of_ble_eq_true rfl, Nat.le_of_ble_eq_true rfl, q⟩
set_option maxRecDepth 100000 in
theorem go_X9_thread_32 {nc : Nat} {C : tf_C} {Q : tf_Q} {h : LH} (hn : 297 ≤ nc) {x1 : Int32} {y1 : Int32} (q : C 76 [.ref (270), .int (y1), .int ((-1))] h (fun r g => lx_X9_thread nc C Q 36 [.ref (270), .int (x1), tf_z, tf_z, tf_z] (r :: []) g)) : lx_X9_thread nc C Q 32 [.ref (270), .int (x1), tf_z, tf_z, tf_z] [.int (y1), .ref (270)] h := by
  refine tf_LW_go ?_
  exact ⟨Nat.le_of_ble_eq_true rfl, Nat.le_of_ble_eq_true rfl, q⟩
set_option maxRecDepth 100000 in
theorem go_X9_thread_36 {nc : Nat} {C : tf_C} {Q : tf_Q} {h : LH} (hn : 297 ≤ nc) {x1 : Int32} {y0 : Int32} (q : lx_X9_thread nc C Q 39 [.ref (270), .int (x1), .int (y0), .int (0), tf_z] [] h) : lx_X9_thread nc C Q 36 [.ref (270), .int (x1), tf_z, tf_z, tf_z] [.int (y0)] h := by
  refine tf_LW_go ?_
  exact q
set_option maxRecDepth 100000 in
theorem go_X9_thread_39 {nc : Nat} {C : tf_C} {Q : tf_Q} {h : LH} (hn : 297 ≤ nc) {x1 : Int32} {x2 : Int32} {x3 : Int32} {x4 : Value} (q : (x1 ≤ x3 → lx_X9_thread nc C Q 90 [.ref (270), .int (x1), .int (x2), .int (x3), x4] [] h) ∧ (¬ x1 ≤ x3 → C 76 [.ref (270), .int (x2), .int ((-1))] h (fun r g => lx_X9_thread nc C Q 50 [.ref (270), .int (x1), .int (x2), .int (x3), x4] (r :: []) g))) : lx_X9_thread nc C Q 39 [.ref (270), .int (x1), .int (x2), .int (x3), x4] [] h := by
  refine tf_LW_go ?_
  exact ⟨q.1, fun c1 => ⟨Nat.le_of_ble_eq_true rfl, Nat.le_of_ble_eq_true rfl, (q.2 c1)⟩⟩
set_option maxRecDepth 100000 in
theorem go_X9_thread_50 {nc : Nat} {C : tf_C} {Q : tf_Q} {h : LH} (hn : 297 ≤ nc) {x1 : Int32} {x2 : Int32} {x3 : Int32} {x4 : Value} {y0 : Int32} (q : lx_X9_thread nc C Q 52 [.ref (270), .int (x1), .int (x2), .int (x3), .int (y0)] [] h) : lx_X9_thread nc C Q 50 [.ref (270), .int (x1), .int (x2), .int (x3), x4] [.int (y0)] h := by
  refine tf_LW_go ?_
  exact q
set_option maxRecDepth 100000 in
theorem go_X9_thread_52 {nc : Nat} {C : tf_C} {Q : tf_Q} {h : LH} (hn : 297 ≤ nc) {x1 : Int32} {x2 : Int32} {x3 : Int32} {x4 : Int32} (q : (x4 = ((-1) : Int32) → (vp_in x2 8) ∧ C 76 [.ref (270), .int (h.1 281 (x2 : Int32).toNatClampNeg), .int (x2)] h (fun r g => lx_X9_thread nc C Q 69 [.ref (270), .int (x1), .int (x2), .int (x3), .int (x4)] (r :: []) g)) ∧ (¬ x4 = ((-1) : Int32) → lx_X9_thread nc C Q 81 [.ref (270), .int (x1), .int (x2), .int (x3), .int (x4)] [] h)) : lx_X9_thread nc C Q 52 [.ref (270), .int (x1), .int (x2), .int (x3), .int (x4)] [] h := by
  refine tf_LW_go ?_
  exact ⟨fun c1 => ⟨⟨(by first | rfl | trivial), (show 270 < nc by omega)⟩, ⟨⟨(by first | rfl | trivial), (show 281 < nc by omega), (q.1 c1).1⟩, ⟨Nat.le_of_ble_eq_true rfl, Nat.le_of_ble_eq_true rfl, (q.1 c1).2⟩⟩⟩, q.2⟩
set_option maxRecDepth 100000 in
theorem go_X9_thread_69 {nc : Nat} {C : tf_C} {Q : tf_Q} {h : LH} (hn : 297 ≤ nc) {x1 : Int32} {x2 : Int32} {x3 : Int32} {x4 : Int32} {y0 : Int32} (q : (vp_in x2 8) ∧ lx_X9_thread nc C Q 52 [.ref (270), .int (x1), .int (h.1 281 (x2 : Int32).toNatClampNeg), .int (x3), .int (y0)] [] h) : lx_X9_thread nc C Q 69 [.ref (270), .int (x1), .int (x2), .int (x3), .int (x4)] [.int (y0)] h := by
  refine tf_LW_go ?_
  exact ⟨⟨(by first | rfl | trivial), (show 270 < nc by omega)⟩, ⟨⟨(by first | rfl | trivial), (show 281 < nc by omega), q.1⟩, q.2⟩⟩
set_option maxRecDepth 100000 in
theorem go_X9_thread_81 {nc : Nat} {C : tf_C} {Q : tf_Q} {h : LH} (hn : 297 ≤ nc) {x1 : Int32} {x2 : Int32} {x3 : Int32} {x4 : Int32} (q : lx_X9_thread nc C Q 39 [.ref (270), .int (x1), .int (x4), .int (x3 + 1), .int (x4)] [] h) : lx_X9_thread nc C Q 81 [.ref (270), .int (x1), .int (x2), .int (x3), .int (x4)] [] h := by
  refine tf_LW_go ?_
  exact q
set_option maxRecDepth 100000 in
theorem go_X9_thread_90 {nc : Nat} {C : tf_C} {Q : tf_Q} {h : LH} (hn : 297 ≤ nc) {x1 : Int32} {x2 : Int32} {x3 : Int32} {x4 : Value} (q : Q (.int (x2)) h) : lx_X9_thread nc C Q 90 [.ref (270), .int (x1), .int (x2), .int (x3), x4] [] h := by
  refine tf_LW_go ?_
  exact ⟨(by first | trivial | rfl), q⟩
abbrev lx_X9_costOfCycle (nc : Nat) (C : tf_C) (Q : tf_Q) : tf_X := tf_LW nc C (tf_F 7) (tf_M 7) (tf_I 7) (tf_Eh 78) 1 tb_X9_costOfCycle Q
set_option maxRecDepth 100000 in
theorem go_X9_costOfCycle_0 {nc : Nat} {C : tf_C} {Q : tf_Q} {h : LH} (hn : 297 ≤ nc) (q : lx_X9_costOfCycle nc C Q 4 [.ref (270), .int (0), .int (0), tf_z] [] h) : lx_X9_costOfCycle nc C Q 0 [.ref (270), tf_z, tf_z, tf_z] [] h := by
  refine tf_LW_go ?_
  exact q
theorem en_X9_costOfCycle {nc d : Nat} {Q : tf_Q} {h : LH} (hn : 297 ≤ nc) (q : lx_X9_costOfCycle nc (tf_Cd nc d) Q 0 [.ref (270), tf_z, tf_z, tf_z] [] h) : tf_Cd nc (d + 1) 78 [.ref (270)] h Q := by
  exact ⟨⟨Nat.le_of_ble_eq_true rfl, Or.inr ⟨rfl, (show 270 < nc by omega)⟩⟩, q⟩
set_option maxRecDepth 100000 in
theorem go_X9_costOfCycle_4 {nc : Nat} {C : tf_C} {Q : tf_Q} {h : LH} (hn : 297 ≤ nc) {x1 : Int32} {x2 : Int32} {x3 : Value} (q : ((h.1 270 30) ≤ x2 → lx_X9_costOfCycle nc C Q 66 [.ref (270), .int (x1), .int (x2), x3] [] h) ∧ (¬ (h.1 270 30) ≤ x2 → (vp_in x2 16) ∧ C 27 [.int (h.1 285 (x2 : Int32).toNatClampNeg)] h (fun r g => lx_X9_costOfCycle nc C Q 21 [.ref (270), .int (x1), .int (x2), x3] (r :: []) g))) : lx_X9_costOfCycle nc C Q 4 [.ref (270), .int (x1), .int (x2), x3] [] h := by
  refine tf_LW_go ?_
  exact ⟨⟨(by first | rfl | trivial), (show 270 < nc by omega)⟩, ⟨q.1, fun c1 => ⟨⟨(by first | rfl | trivial), (show 270 < nc by omega)⟩, ⟨⟨(by first | rfl | trivial), (show 285 < nc by omega), (q.2 c1).1⟩, ⟨Nat.le_of_ble_eq_true rfl, Nat.le_of_ble_eq_true rfl, (q.2 c1).2⟩⟩⟩⟩⟩
set_option maxRecDepth 100000 in
theorem go_X9_costOfCycle_21 {nc : Nat} {C : tf_C} {Q : tf_Q} {h : LH} (hn : 297 ≤ nc) {x1 : Int32} {x2 : Int32} {x3 : Value} {y0 : Int32} (q : (y0 = (0 : Int32) → lx_X9_costOfCycle nc C Q 30 [.ref (270), .int (x1), .int (x2), x3] [] h) ∧ (¬ y0 = (0 : Int32) → lx_X9_costOfCycle nc C Q 41 [.ref (270), .int (x1), .int (x2), x3] [.int (10000)] h)) : lx_X9_costOfCycle nc C Q 21 [.ref (270), .int (x1), .int (x2), x3] [.int (y0)] h := by
  refine tf_LW_go ?_
  exact ⟨q.1, fun c1 => (q.2 c1)⟩
set_option maxRecDepth 100000 in
theorem go_X9_costOfCycle_30 {nc : Nat} {C : tf_C} {Q : tf_Q} {h : LH} (hn : 297 ≤ nc) {x1 : Int32} {x2 : Int32} {x3 : Value} (q : (vp_in x2 16) ∧ C 3 [.ref (270), .int (h.1 285 (x2 : Int32).toNatClampNeg), .int (3)] h (fun r g => lx_X9_costOfCycle nc C Q 41 [.ref (270), .int (x1), .int (x2), x3] (r :: []) g)) : lx_X9_costOfCycle nc C Q 30 [.ref (270), .int (x1), .int (x2), x3] [] h := by
  refine tf_LW_go ?_
  exact ⟨⟨(by first | rfl | trivial), (show 270 < nc by omega)⟩, ⟨⟨(by first | rfl | trivial), (show 285 < nc by omega), q.1⟩, ⟨Nat.le_of_ble_eq_true rfl, Nat.le_of_ble_eq_true rfl, q.2⟩⟩⟩
set_option maxRecDepth 100000 in
theorem go_X9_costOfCycle_41 {nc : Nat} {C : tf_C} {Q : tf_Q} {h : LH} (hn : 297 ≤ nc) {x1 : Int32} {x2 : Int32} {x3 : Value} {y0 : Int32} (q : (vp_in x2 16) ∧ ((h.1 286 (x2 : Int32).toNatClampNeg) = (0 : Int32) → lx_X9_costOfCycle nc C Q 56 [.ref (270), .int (x1), .int (x2), .int (y0)] [.int (x1)] h) ∧ (¬ (h.1 286 (x2 : Int32).toNatClampNeg) = (0 : Int32) → lx_X9_costOfCycle nc C Q 58 [.ref (270), .int (x1), .int (x2), .int (y0)] [.int (y0), .int (x1)] h)) : lx_X9_costOfCycle nc C Q 41 [.ref (270), .int (x1), .int (x2), x3] [.int (y0)] h := by
  refine tf_LW_go ?_
  exact ⟨⟨(by first | rfl | trivial), (show 270 < nc by omega)⟩, ⟨⟨(Or.inr (by first | rfl | trivial)), (show 286 < nc by omega), q.1⟩, ⟨q.2.1, fun c1 => (q.2.2 c1)⟩⟩⟩
set_option maxRecDepth 100000 in
theorem go_X9_costOfCycle_56 {nc : Nat} {C : tf_C} {Q : tf_Q} {h : LH} (hn : 297 ≤ nc) {x1 : Int32} {x2 : Int32} {x3 : Int32} {y0 : Int32} (q : lx_X9_costOfCycle nc C Q 58 [.ref (270), .int (x1), .int (x2), .int (x3)] [.int (-x3), .int (y0)] h) : lx_X9_costOfCycle nc C Q 56 [.ref (270), .int (x1), .int (x2), .int (x3)] [.int (y0)] h := by
  refine tf_LW_go ?_
  exact q
set_option maxRecDepth 100000 in
theorem go_X9_costOfCycle_58 {nc : Nat} {C : tf_C} {Q : tf_Q} {h : LH} (hn : 297 ≤ nc) {x1 : Int32} {x2 : Int32} {x3 : Int32} {y0 : Int32} {y1 : Int32} (q : lx_X9_costOfCycle nc C Q 4 [.ref (270), .int (y0 + y1), .int (x2 + 1), .int (x3)] [] h) : lx_X9_costOfCycle nc C Q 58 [.ref (270), .int (x1), .int (x2), .int (x3)] [.int (y1), .int (y0)] h := by
  refine tf_LW_go ?_
  exact q
set_option maxRecDepth 100000 in
theorem go_X9_costOfCycle_66 {nc : Nat} {C : tf_C} {Q : tf_Q} {h : LH} (hn : 297 ≤ nc) {x1 : Int32} {x2 : Int32} {x3 : Value} (q : Q (.int (x1)) h) : lx_X9_costOfCycle nc C Q 66 [.ref (270), .int (x1), .int (x2), x3] [] h := by
  refine tf_LW_go ?_
  exact ⟨(by first | trivial | rfl), q⟩
abbrev lx_X9_path (nc : Nat) (C : tf_C) (Q : tf_Q) : tf_X := tf_LW nc C (tf_F 7) (tf_M 7) (tf_I 7) (tf_Eh 79) 1 tb_X9_path Q
set_option maxRecDepth 100000 in
theorem go_X9_path_0 {nc : Nat} {C : tf_C} {Q : tf_Q} {h : LH} (hn : 297 ≤ nc) {x1 : Int32} {x2 : Int32} {x3 : Int32} (q : C 7 [.ref (270), .int (x1), .int (x2)] (tf_up h.1 270 0 0, h.2) (fun r g => lx_X9_path nc C Q 11 [.ref (270), .int (x1), .int (x2), .int (x3), tf_z] (r :: []) g)) : lx_X9_path nc C Q 0 [.ref (270), .int (x1), .int (x2), .int (x3), tf_z] [] h := by
  refine tf_LW_go ?_
  exact ⟨⟨(by first | rfl | trivial), (show 270 < nc by omega), (by first | rfl | trivial)⟩, ⟨Nat.le_of_ble_eq_true rfl, Nat.le_of_ble_eq_true rfl, q⟩⟩
theorem en_X9_path {nc d : Nat} {Q : tf_Q} {h : LH} (hn : 297 ≤ nc) {x1 : Int32} {x2 : Int32} {x3 : Int32} (q : lx_X9_path nc (tf_Cd nc d) Q 0 [.ref (270), .int (x1), .int (x2), .int (x3), tf_z] [] h) : tf_Cd nc (d + 1) 79 [.ref (270), .int (x1), .int (x2), .int (x3)] h Q := by
  exact ⟨⟨Nat.le_of_ble_eq_true rfl, Or.inr ⟨rfl, (show 270 < nc by omega)⟩⟩, q⟩
set_option maxRecDepth 100000 in
theorem go_X9_path_11 {nc : Nat} {C : tf_C} {Q : tf_Q} {h : LH} (hn : 297 ≤ nc) {x1 : Int32} {x2 : Int32} {x3 : Int32} {y0 : Int32} (q : (y0 = (0 : Int32) → Q (.int ((-1000))) h) ∧ (¬ y0 = (0 : Int32) → lx_X9_path nc C Q 18 [.ref (270), .int (x1), .int (x2), .int (x3), tf_z] [] h)) : lx_X9_path nc C Q 11 [.ref (270), .int (x1), .int (x2), .int (x3), tf_z] [.int (y0)] h := by
  refine tf_LW_go ?_
  exact ⟨fun c1 => ⟨(by first | trivial | rfl), (q.1 c1)⟩, q.2⟩
set_option maxRecDepth 100000 in
theorem go_X9_path_18 {nc : Nat} {C : tf_C} {Q : tf_Q} {h : LH} (hn : 297 ≤ nc) {x1 : Int32} {x2 : Int32} {x3 : Int32} (q : C 30 [.ref (270)] h (fun r g => lx_X9_path nc C Q 22 [.ref (270), .int (x1), .int (x2), .int (x3), tf_z] [] g)) : lx_X9_path nc C Q 18 [.ref (270), .int (x1), .int (x2), .int (x3), tf_z] [] h := by
  refine tf_LW_go ?_
  exact ⟨Nat.le_of_ble_eq_true rfl, Nat.le_of_ble_eq_true rfl, q⟩
set_option maxRecDepth 100000 in
theorem go_X9_path_22 {nc : Nat} {C : tf_C} {Q : tf_Q} {h : LH} (hn : 297 ≤ nc) {x1 : Int32} {x2 : Int32} {x3 : Int32} (q : C 39 [.ref (270), .int (x1), .int (x2)] h (fun r g => lx_X9_path nc C Q 29 [.ref (270), .int (x1), .int (x2), .int (x3), tf_z] (r :: [.ref (270)]) g)) : lx_X9_path nc C Q 22 [.ref (270), .int (x1), .int (x2), .int (x3), tf_z] [] h := by
  refine tf_LW_go ?_
  exact ⟨Nat.le_of_ble_eq_true rfl, Nat.le_of_ble_eq_true rfl, q⟩
set_option maxRecDepth 100000 in
theorem go_X9_path_29 {nc : Nat} {C : tf_C} {Q : tf_Q} {h : LH} (hn : 297 ≤ nc) {x1 : Int32} {x2 : Int32} {x3 : Int32} {y1 : Int32} (q : C 41 [.ref (270), .int (x1), .int ((tf_up (tf_up h.1 270 31 y1) 270 30 0) 270 31)] (tf_up (tf_up h.1 270 31 y1) 270 30 0, h.2) (fun r g => lx_X9_path nc C Q 46 [.ref (270), .int (x1), .int (x2), .int (x3), tf_z] [] g)) : lx_X9_path nc C Q 29 [.ref (270), .int (x1), .int (x2), .int (x3), tf_z] [.int (y1), .ref (270)] h := by
  refine tf_LW_go ?_
  exact ⟨⟨(by first | rfl | trivial), (show 270 < nc by omega), (by first | rfl | trivial)⟩, ⟨⟨(by first | rfl | trivial), (show 270 < nc by omega), (by first | rfl | trivial)⟩, ⟨⟨(by first | rfl | trivial), (show 270 < nc by omega)⟩, ⟨Nat.le_of_ble_eq_true rfl, Nat.le_of_ble_eq_true rfl, q⟩⟩⟩⟩
set_option maxRecDepth 100000 in
theorem go_X9_path_46 {nc : Nat} {C : tf_C} {Q : tf_Q} {h : LH} (hn : 297 ≤ nc) {x1 : Int32} {x2 : Int32} {x3 : Int32} (q : C 40 [.ref (270), .int (h.1 270 31), .int (x2)] h (fun r g => lx_X9_path nc C Q 55 [.ref (270), .int (x1), .int (x2), .int (x3), tf_z] [] g)) : lx_X9_path nc C Q 46 [.ref (270), .int (x1), .int (x2), .int (x3), tf_z] [] h := by
  refine tf_LW_go ?_
  exact ⟨⟨(by first | rfl | trivial), (show 270 < nc by omega)⟩, ⟨Nat.le_of_ble_eq_true rfl, Nat.le_of_ble_eq_true rfl, q⟩⟩
set_option maxRecDepth 100000 in
theorem go_X9_path_55 {nc : Nat} {C : tf_C} {Q : tf_Q} {h : LH} (hn : 297 ≤ nc) {x1 : Int32} {x2 : Int32} {x3 : Int32} (q : (x3 = (0 : Int32) → Q (.int (h.1 270 30)) h) ∧ (¬ x3 = (0 : Int32) → lx_X9_path nc C Q 64 [.ref (270), .int (x1), .int (x2), .int (x3), tf_z] [] h)) : lx_X9_path nc C Q 55 [.ref (270), .int (x1), .int (x2), .int (x3), tf_z] [] h := by
  refine tf_LW_go ?_
  exact ⟨fun c1 => ⟨⟨(by first | rfl | trivial), (show 270 < nc by omega)⟩, ⟨(by first | trivial | rfl), (q.1 c1)⟩⟩, q.2⟩
set_option maxRecDepth 100000 in
theorem go_X9_path_64 {nc : Nat} {C : tf_C} {Q : tf_Q} {h : LH} (hn : 297 ≤ nc) {x1 : Int32} {x2 : Int32} {x3 : Int32} (q : (x3 = (1 : Int32) → C 43 [.ref (270)] h (fun r g => lx_X9_path nc C Q 73 [.ref (270), .int (x1), .int (x2), .int (x3), tf_z] (r :: []) g)) ∧ (¬ x3 = (1 : Int32) → lx_X9_path nc C Q 90 [.ref (270), .int (x1), .int (x2), .int (x3), tf_z] [] h)) : lx_X9_path nc C Q 64 [.ref (270), .int (x1), .int (x2), .int (x3), tf_z] [] h := by
  refine tf_LW_go ?_
  exact ⟨fun c1 => ⟨Nat.le_of_ble_eq_true rfl, Nat.le_of_ble_eq_true rfl, (q.1 c1)⟩, q.2⟩
set_option maxRecDepth 100000 in
theorem go_X9_path_73 {nc : Nat} {C : tf_C} {Q : tf_Q} {h : LH} (hn : 297 ≤ nc) {x1 : Int32} {x2 : Int32} {x3 : Int32} {y0 : Int32} (q : (y0 = (1000000 : Int32) → lx_X9_path nc C Q 89 [.ref (270), .int (x1), .int (x2), .int (x3), .int (y0)] [.int ((-1))] h) ∧ (¬ y0 = (1000000 : Int32) → lx_X9_path nc C Q 87 [.ref (270), .int (x1), .int (x2), .int (x3), .int (y0)] [] h)) : lx_X9_path nc C Q 73 [.ref (270), .int (x1), .int (x2), .int (x3), tf_z] [.int (y0)] h := by
  refine tf_LW_go ?_
  exact ⟨fun c1 => (q.1 c1), q.2⟩
set_option maxRecDepth 100000 in
theorem go_X9_path_87 {nc : Nat} {C : tf_C} {Q : tf_Q} {h : LH} (hn : 297 ≤ nc) {x1 : Int32} {x2 : Int32} {x3 : Int32} {x4 : Int32} (q : lx_X9_path nc C Q 89 [.ref (270), .int (x1), .int (x2), .int (x3), .int (x4)] [.int (x4)] h) : lx_X9_path nc C Q 87 [.ref (270), .int (x1), .int (x2), .int (x3), .int (x4)] [] h := by
  refine tf_LW_go ?_
  exact q
set_option maxRecDepth 100000 in
theorem go_X9_path_89 {nc : Nat} {C : tf_C} {Q : tf_Q} {h : LH} (hn : 297 ≤ nc) {x1 : Int32} {x2 : Int32} {x3 : Int32} {x4 : Int32} {y0 : Int32} (q : Q (.int (y0)) h) : lx_X9_path nc C Q 89 [.ref (270), .int (x1), .int (x2), .int (x3), .int (x4)] [.int (y0)] h := by
  refine tf_LW_go ?_
  exact ⟨(by first | trivial | rfl), q⟩
set_option maxRecDepth 100000 in
theorem go_X9_path_90 {nc : Nat} {C : tf_C} {Q : tf_Q} {h : LH} (hn : 297 ≤ nc) {x1 : Int32} {x2 : Int32} {x3 : Int32} (q : (x3 = (2 : Int32) → C 78 [.ref (270)] h (fun r g => lx_X9_path nc C Q 99 [.ref (270), .int (x1), .int (x2), .int (x3), tf_z] (r :: []) g)) ∧ (¬ x3 = (2 : Int32) → lx_X9_path nc C Q 102 [.ref (270), .int (x1), .int (x2), .int (x3), tf_z] [] h)) : lx_X9_path nc C Q 90 [.ref (270), .int (x1), .int (x2), .int (x3), tf_z] [] h := by
  refine tf_LW_go ?_
  exact ⟨fun c1 => ⟨Nat.le_of_ble_eq_true rfl, Nat.le_of_ble_eq_true rfl, (q.1 c1)⟩, q.2⟩
set_option maxRecDepth 100000 in
theorem go_X9_path_99 {nc : Nat} {C : tf_C} {Q : tf_Q} {h : LH} (hn : 297 ≤ nc) {x1 : Int32} {x2 : Int32} {x3 : Int32} {y0 : Int32} (q : lx_X9_path nc C Q 134 [.ref (270), .int (x1), .int (x2), .int (x3), tf_z] [.int (y0)] h) : lx_X9_path nc C Q 99 [.ref (270), .int (x1), .int (x2), .int (x3), tf_z] [.int (y0)] h := by
  refine tf_LW_go ?_
  exact q
set_option maxRecDepth 100000 in
theorem go_X9_path_102 {nc : Nat} {C : tf_C} {Q : tf_Q} {h : LH} (hn : 297 ≤ nc) {x1 : Int32} {x2 : Int32} {x3 : Int32} (q : C 0 [.int (x3 - 10), .int (0), .int ((h.1 270 30) - 1)] h (fun r g => lx_X9_path nc C Q 116 [.ref (270), .int (x1), .int (x2), .int (x3), tf_z] (r :: []) g)) : lx_X9_path nc C Q 102 [.ref (270), .int (x1), .int (x2), .int (x3), tf_z] [] h := by
  refine tf_LW_go ?_
  exact ⟨⟨(by first | rfl | trivial), (show 270 < nc by omega)⟩, ⟨Nat.le_of_ble_eq_true rfl, Nat.le_of_ble_eq_true rfl, q⟩⟩
set_option maxRecDepth 100000 in
theorem go_X9_path_116 {nc : Nat} {C : tf_C} {Q : tf_Q} {h : LH} (hn : 297 ≤ nc) {x1 : Int32} {x2 : Int32} {x3 : Int32} {y0 : Int32} (q : (y0 = (0 : Int32) → lx_X9_path nc C Q 131 [.ref (270), .int (x1), .int (x2), .int (x3), tf_z] [] h) ∧ (¬ y0 = (0 : Int32) → (vp_in (x3 - 10) 16) ∧ lx_X9_path nc C Q 134 [.ref (270), .int (x1), .int (x2), .int (x3), tf_z] [.int (h.1 285 (x3 - 10 : Int32).toNatClampNeg)] h)) : lx_X9_path nc C Q 116 [.ref (270), .int (x1), .int (x2), .int (x3), tf_z] [.int (y0)] h := by
  refine tf_LW_go ?_
  exact ⟨q.1, fun c1 => ⟨⟨(by first | rfl | trivial), (show 270 < nc by omega)⟩, ⟨⟨(by first | rfl | trivial), (show 285 < nc by omega), (q.2 c1).1⟩, (q.2 c1).2⟩⟩⟩
set_option maxRecDepth 100000 in
theorem go_X9_path_131 {nc : Nat} {C : tf_C} {Q : tf_Q} {h : LH} (hn : 297 ≤ nc) {x1 : Int32} {x2 : Int32} {x3 : Int32} (q : lx_X9_path nc C Q 134 [.ref (270), .int (x1), .int (x2), .int (x3), tf_z] [.int ((-1000))] h) : lx_X9_path nc C Q 131 [.ref (270), .int (x1), .int (x2), .int (x3), tf_z] [] h := by
  refine tf_LW_go ?_
  exact q
set_option maxRecDepth 100000 in
theorem go_X9_path_134 {nc : Nat} {C : tf_C} {Q : tf_Q} {h : LH} (hn : 297 ≤ nc) {x1 : Int32} {x2 : Int32} {x3 : Int32} {y0 : Int32} (q : Q (.int (y0)) h) : lx_X9_path nc C Q 134 [.ref (270), .int (x1), .int (x2), .int (x3), tf_z] [.int (y0)] h := by
  refine tf_LW_go ?_
  exact ⟨(by first | trivial | rfl), q⟩
abbrev lx_X9_next (nc : Nat) (C : tf_C) (Q : tf_Q) : tf_X := tf_LW nc C (tf_F 7) (tf_M 7) (tf_I 7) (tf_Eh 80) 1 tb_X9_next Q
set_option maxRecDepth 100000 in
theorem go_X9_next_0 {nc : Nat} {C : tf_C} {Q : tf_Q} {h : LH} (hn : 297 ≤ nc) {x1 : Int32} (q : C 30 [.ref (270)] (tf_up h.1 270 0 0, h.2) (fun r g => lx_X9_next nc C Q 9 [.ref (270), .int (x1), tf_z, tf_z] [] g)) : lx_X9_next nc C Q 0 [.ref (270), .int (x1), tf_z, tf_z] [] h := by
  refine tf_LW_go ?_
  exact ⟨⟨(by first | rfl | trivial), (show 270 < nc by omega), (by first | rfl | trivial)⟩, ⟨Nat.le_of_ble_eq_true rfl, Nat.le_of_ble_eq_true rfl, q⟩⟩
theorem en_X9_next {nc d : Nat} {Q : tf_Q} {h : LH} (hn : 297 ≤ nc) {x1 : Int32} (q : lx_X9_next nc (tf_Cd nc d) Q 0 [.ref (270), .int (x1), tf_z, tf_z] [] h) : tf_Cd nc (d + 1) 80 [.ref (270), .int (x1)] h Q := by
  exact ⟨⟨Nat.le_of_ble_eq_true rfl, Or.inr ⟨rfl, (show 270 < nc by omega)⟩⟩, q⟩
set_option maxRecDepth 100000 in
theorem go_X9_next_9 {nc : Nat} {C : tf_C} {Q : tf_Q} {h : LH} (hn : 297 ≤ nc) {x1 : Int32} (q : C 36 [.ref (270)] h (fun r g => lx_X9_next nc C Q 13 [.ref (270), .int (x1), tf_z, tf_z] (r :: []) g)) : lx_X9_next nc C Q 9 [.ref (270), .int (x1), tf_z, tf_z] [] h := by
  refine tf_LW_go ?_
  exact ⟨Nat.le_of_ble_eq_true rfl, Nat.le_of_ble_eq_true rfl, q⟩
set_option maxRecDepth 100000 in
theorem go_X9_next_13 {nc : Nat} {C : tf_C} {Q : tf_Q} {h : LH} (hn : 297 ≤ nc) {x1 : Int32} {y0 : Int32} (q : (y0 = ((-1) : Int32) → Q (.int ((-1))) h) ∧ (¬ y0 = ((-1) : Int32) → lx_X9_next nc C Q 21 [.ref (270), .int (x1), .int (y0), tf_z] [] h)) : lx_X9_next nc C Q 13 [.ref (270), .int (x1), tf_z, tf_z] [.int (y0)] h := by
  refine tf_LW_go ?_
  exact ⟨fun c1 => ⟨(by first | trivial | rfl), (q.1 c1)⟩, q.2⟩
set_option maxRecDepth 100000 in
theorem go_X9_next_21 {nc : Nat} {C : tf_C} {Q : tf_Q} {h : LH} (hn : 297 ≤ nc) {x1 : Int32} {x2 : Int32} (q : C 44 [.ref (270), .int (x2)] h (fun r g => lx_X9_next nc C Q 26 [.ref (270), .int (x1), .int (x2), tf_z] [] g)) : lx_X9_next nc C Q 21 [.ref (270), .int (x1), .int (x2), tf_z] [] h := by
  refine tf_LW_go ?_
  exact ⟨Nat.le_of_ble_eq_true rfl, Nat.le_of_ble_eq_true rfl, q⟩
set_option maxRecDepth 100000 in
theorem go_X9_next_26 {nc : Nat} {C : tf_C} {Q : tf_Q} {h : LH} (hn : 297 ≤ nc) {x1 : Int32} {x2 : Int32} (q : C 43 [.ref (270)] h (fun r g => lx_X9_next nc C Q 30 [.ref (270), .int (x1), .int (x2), tf_z] (r :: []) g)) : lx_X9_next nc C Q 26 [.ref (270), .int (x1), .int (x2), tf_z] [] h := by
  refine tf_LW_go ?_
  exact ⟨Nat.le_of_ble_eq_true rfl, Nat.le_of_ble_eq_true rfl, q⟩
set_option maxRecDepth 100000 in
theorem go_X9_next_30 {nc : Nat} {C : tf_C} {Q : tf_Q} {h : LH} (hn : 297 ≤ nc) {x1 : Int32} {x2 : Int32} {y0 : Int32} (q : (((x1 : Int32).toInt < 0 ∨ 4 < (x1 : Int32).toInt) → lx_X9_next nc C Q 88 [.ref (270), .int (x1), .int (x2), .int (y0)] [] h) ∧ ((x1 : Int32).toInt = 0 → lx_X9_next nc C Q 68 [.ref (270), .int (x1), .int (x2), .int (y0)] [] h) ∧ ((x1 : Int32).toInt = 1 → lx_X9_next nc C Q 70 [.ref (270), .int (x1), .int (x2), .int (y0)] [] h) ∧ ((x1 : Int32).toInt = 2 → lx_X9_next nc C Q 76 [.ref (270), .int (x1), .int (x2), .int (y0)] [] h) ∧ ((x1 : Int32).toInt = 3 → lx_X9_next nc C Q 78 [.ref (270), .int (x1), .int (x2), .int (y0)] [] h) ∧ ((x1 : Int32).toInt = 4 → lx_X9_next nc C Q 83 [.ref (270), .int (x1), .int (x2), .int (y0)] [] h) ∧ True) : lx_X9_next nc C Q 30 [.ref (270), .int (x1), .int (x2), tf_z] [.int (y0)] h := by
  refine tf_LW_go ?_
  exact q
set_option maxRecDepth 100000 in
theorem go_X9_next_68 {nc : Nat} {C : tf_C} {Q : tf_Q} {h : LH} (hn : 297 ≤ nc) {x1 : Int32} {x2 : Int32} {x3 : Int32} (q : Q (.int (x2)) h) : lx_X9_next nc C Q 68 [.ref (270), .int (x1), .int (x2), .int (x3)] [] h := by
  refine tf_LW_go ?_
  exact ⟨(by first | trivial | rfl), q⟩
set_option maxRecDepth 100000 in
theorem go_X9_next_70 {nc : Nat} {C : tf_C} {Q : tf_Q} {h : LH} (hn : 297 ≤ nc) {x1 : Int32} {x2 : Int32} {x3 : Int32} (q : C 45 [.ref (270), .int (x3)] h (fun r g => lx_X9_next nc C Q 75 [.ref (270), .int (x1), .int (x2), .int (x3)] (r :: []) g)) : lx_X9_next nc C Q 70 [.ref (270), .int (x1), .int (x2), .int (x3)] [] h := by
  refine tf_LW_go ?_
  exact ⟨Nat.le_of_ble_eq_true rfl, Nat.le_of_ble_eq_true rfl, q⟩
set_option maxRecDepth 100000 in
theorem go_X9_next_75 {nc : Nat} {C : tf_C} {Q : tf_Q} {h : LH} (hn : 297 ≤ nc) {x1 : Int32} {x2 : Int32} {x3 : Int32} {y0 : Int32} (q : Q (.int (y0)) h) : lx_X9_next nc C Q 75 [.ref (270), .int (x1), .int (x2), .int (x3)] [.int (y0)] h := by
  refine tf_LW_go ?_
  exact ⟨(by first | trivial | rfl), q⟩
set_option maxRecDepth 100000 in
theorem go_X9_next_76 {nc : Nat} {C : tf_C} {Q : tf_Q} {h : LH} (hn : 297 ≤ nc) {x1 : Int32} {x2 : Int32} {x3 : Int32} (q : Q (.int (x3)) h) : lx_X9_next nc C Q 76 [.ref (270), .int (x1), .int (x2), .int (x3)] [] h := by
  refine tf_LW_go ?_
  exact ⟨(by first | trivial | rfl), q⟩
set_option maxRecDepth 100000 in
theorem go_X9_next_78 {nc : Nat} {C : tf_C} {Q : tf_Q} {h : LH} (hn : 297 ≤ nc) {x1 : Int32} {x2 : Int32} {x3 : Int32} (q : Q (.int (h.1 270 31)) h) : lx_X9_next nc C Q 78 [.ref (270), .int (x1), .int (x2), .int (x3)] [] h := by
  refine tf_LW_go ?_
  exact ⟨⟨(by first | rfl | trivial), (show 270 < nc by omega)⟩, ⟨(by first | trivial | rfl), q⟩⟩
set_option maxRecDepth 100000 in
theorem go_X9_next_83 {nc : Nat} {C : tf_C} {Q : tf_Q} {h : LH} (hn : 297 ≤ nc) {x1 : Int32} {x2 : Int32} {x3 : Int32} (q : Q (.int (h.1 270 30)) h) : lx_X9_next nc C Q 83 [.ref (270), .int (x1), .int (x2), .int (x3)] [] h := by
  refine tf_LW_go ?_
  exact ⟨⟨(by first | rfl | trivial), (show 270 < nc by omega)⟩, ⟨(by first | trivial | rfl), q⟩⟩
set_option maxRecDepth 100000 in
theorem go_X9_next_88 {nc : Nat} {C : tf_C} {Q : tf_Q} {h : LH} (hn : 297 ≤ nc) {x1 : Int32} {x2 : Int32} {x3 : Int32} (q : C 0 [.int (x1 - 10), .int (0), .int ((h.1 270 30) - 1)] h (fun r g => lx_X9_next nc C Q 102 [.ref (270), .int (x1), .int (x2), .int (x3)] (r :: []) g)) : lx_X9_next nc C Q 88 [.ref (270), .int (x1), .int (x2), .int (x3)] [] h := by
  refine tf_LW_go ?_
  exact ⟨⟨(by first | rfl | trivial), (show 270 < nc by omega)⟩, ⟨Nat.le_of_ble_eq_true rfl, Nat.le_of_ble_eq_true rfl, q⟩⟩
set_option maxRecDepth 100000 in
theorem go_X9_next_102 {nc : Nat} {C : tf_C} {Q : tf_Q} {h : LH} (hn : 297 ≤ nc) {x1 : Int32} {x2 : Int32} {x3 : Int32} {y0 : Int32} (q : (y0 = (0 : Int32) → lx_X9_next nc C Q 117 [.ref (270), .int (x1), .int (x2), .int (x3)] [] h) ∧ (¬ y0 = (0 : Int32) → (vp_in (x1 - 10) 16) ∧ lx_X9_next nc C Q 118 [.ref (270), .int (x1), .int (x2), .int (x3)] [.int (h.1 285 (x1 - 10 : Int32).toNatClampNeg)] h)) : lx_X9_next nc C Q 102 [.ref (270), .int (x1), .int (x2), .int (x3)] [.int (y0)] h := by
  refine tf_LW_go ?_
  exact ⟨q.1, fun c1 => ⟨⟨(by first | rfl | trivial), (show 270 < nc by omega)⟩, ⟨⟨(by first | rfl | trivial), (show 285 < nc by omega), (q.2 c1).1⟩, (q.2 c1).2⟩⟩⟩
set_option maxRecDepth 100000 in
theorem go_X9_next_117 {nc : Nat} {C : tf_C} {Q : tf_Q} {h : LH} (hn : 297 ≤ nc) {x1 : Int32} {x2 : Int32} {x3 : Int32} (q : lx_X9_next nc C Q 118 [.ref (270), .int (x1), .int (x2), .int (x3)] [.int ((-1))] h) : lx_X9_next nc C Q 117 [.ref (270), .int (x1), .int (x2), .int (x3)] [] h := by
  refine tf_LW_go ?_
  exact q
set_option maxRecDepth 100000 in
theorem go_X9_next_118 {nc : Nat} {C : tf_C} {Q : tf_Q} {h : LH} (hn : 297 ≤ nc) {x1 : Int32} {x2 : Int32} {x3 : Int32} {y0 : Int32} (q : Q (.int (y0)) h) : lx_X9_next nc C Q 118 [.ref (270), .int (x1), .int (x2), .int (x3)] [.int (y0)] h := by
  refine tf_LW_go ?_
  exact ⟨(by first | trivial | rfl), q⟩
abbrev lx_X9_past (nc : Nat) (C : tf_C) (Q : tf_Q) : tf_X := tf_LW nc C (tf_F 7) (tf_M 7) (tf_I 7) (tf_Eh 81) 1 tb_X9_past Q
set_option maxRecDepth 100000 in
theorem go_X9_past_0 {nc : Nat} {C : tf_C} {Q : tf_Q} {h : LH} (hn : 297 ≤ nc) {x1 : Int32} {x2 : Int32} (q : C 0 [.int (x1), .int (0), .int (((tf_up h.1 270 0 0) 271 (7 : Int32).toNatClampNeg) - 1)] (tf_up h.1 270 0 0, h.2) (fun r g => lx_X9_past nc C Q 19 [.ref (270), .int (x1), .int (x2)] (r :: []) g)) : lx_X9_past nc C Q 0 [.ref (270), .int (x1), .int (x2)] [] h := by
  refine tf_LW_go ?_
  exact ⟨⟨(by first | rfl | trivial), (show 270 < nc by omega), (by first | rfl | trivial)⟩, ⟨⟨(by first | rfl | trivial), (show 270 < nc by omega)⟩, ⟨⟨(by first | rfl | trivial), (show 271 < nc by omega), (vp_in_iff.mpr (by decide))⟩, ⟨Nat.le_of_ble_eq_true rfl, Nat.le_of_ble_eq_true rfl, q⟩⟩⟩⟩
theorem en_X9_past {nc d : Nat} {Q : tf_Q} {h : LH} (hn : 297 ≤ nc) {x1 : Int32} {x2 : Int32} (q : lx_X9_past nc (tf_Cd nc d) Q 0 [.ref (270), .int (x1), .int (x2)] [] h) : tf_Cd nc (d + 1) 81 [.ref (270), .int (x1), .int (x2)] h Q := by
  exact ⟨⟨Nat.le_of_ble_eq_true rfl, Or.inr ⟨rfl, (show 270 < nc by omega)⟩⟩, q⟩
set_option maxRecDepth 100000 in
theorem go_X9_past_19 {nc : Nat} {C : tf_C} {Q : tf_Q} {h : LH} (hn : 297 ≤ nc) {x1 : Int32} {x2 : Int32} {y0 : Int32} (q : (y0 = (0 : Int32) → lx_X9_past nc C Q 47 [.ref (270), .int (x1), .int (x2)] [] h) ∧ (¬ y0 = (0 : Int32) → C 0 [.int (x2), .int (0), .int (2)] h (fun r g => lx_X9_past nc C Q 28 [.ref (270), .int (x1), .int (x2)] (r :: []) g))) : lx_X9_past nc C Q 19 [.ref (270), .int (x1), .int (x2)] [.int (y0)] h := by
  refine tf_LW_go ?_
  exact ⟨q.1, fun c1 => ⟨Nat.le_of_ble_eq_true rfl, Nat.le_of_ble_eq_true rfl, (q.2 c1)⟩⟩
set_option maxRecDepth 100000 in
theorem go_X9_past_28 {nc : Nat} {C : tf_C} {Q : tf_Q} {h : LH} (hn : 297 ≤ nc) {x1 : Int32} {x2 : Int32} {y0 : Int32} (q : (y0 = (0 : Int32) → lx_X9_past nc C Q 47 [.ref (270), .int (x1), .int (x2)] [] h) ∧ (¬ y0 = (0 : Int32) → (vp_in ((8 + (3 * x1)) + x2) 865) ∧ lx_X9_past nc C Q 48 [.ref (270), .int (x1), .int (x2)] [.int (h.1 271 ((8 + (3 * x1)) + x2 : Int32).toNatClampNeg)] h)) : lx_X9_past nc C Q 28 [.ref (270), .int (x1), .int (x2)] [.int (y0)] h := by
  refine tf_LW_go ?_
  exact ⟨q.1, fun c1 => ⟨⟨(by first | rfl | trivial), (show 270 < nc by omega)⟩, ⟨⟨(by first | rfl | trivial), (show 271 < nc by omega), (q.2 c1).1⟩, (q.2 c1).2⟩⟩⟩
set_option maxRecDepth 100000 in
theorem go_X9_past_47 {nc : Nat} {C : tf_C} {Q : tf_Q} {h : LH} (hn : 297 ≤ nc) {x1 : Int32} {x2 : Int32} (q : lx_X9_past nc C Q 48 [.ref (270), .int (x1), .int (x2)] [.int ((-1))] h) : lx_X9_past nc C Q 47 [.ref (270), .int (x1), .int (x2)] [] h := by
  refine tf_LW_go ?_
  exact q
set_option maxRecDepth 100000 in
theorem go_X9_past_48 {nc : Nat} {C : tf_C} {Q : tf_Q} {h : LH} (hn : 297 ≤ nc) {x1 : Int32} {x2 : Int32} {y0 : Int32} (q : Q (.int (y0)) h) : lx_X9_past nc C Q 48 [.ref (270), .int (x1), .int (x2)] [.int (y0)] h := by
  refine tf_LW_go ?_
  exact ⟨(by first | trivial | rfl), q⟩
abbrev lx_X9_billed (nc : Nat) (C : tf_C) (Q : tf_Q) : tf_X := tf_LW nc C (tf_F 7) (tf_M 7) (tf_I 7) (tf_Eh 82) 1 tb_X9_billed Q
set_option maxRecDepth 100000 in
theorem go_X9_billed_0 {nc : Nat} {C : tf_C} {Q : tf_Q} {h : LH} (hn : 297 ≤ nc) (q : lx_X9_billed nc C Q 4 [.ref (270), .int (0), .int (0)] [] h) : lx_X9_billed nc C Q 0 [.ref (270), tf_z, tf_z] [] h := by
  refine tf_LW_go ?_
  exact q
theorem en_X9_billed {nc d : Nat} {Q : tf_Q} {h : LH} (hn : 297 ≤ nc) (q : lx_X9_billed nc (tf_Cd nc d) Q 0 [.ref (270), tf_z, tf_z] [] h) : tf_Cd nc (d + 1) 82 [.ref (270)] h Q := by
  exact ⟨⟨Nat.le_of_ble_eq_true rfl, Or.inr ⟨rfl, (show 270 < nc by omega)⟩⟩, q⟩
set_option maxRecDepth 100000 in
theorem go_X9_billed_4 {nc : Nat} {C : tf_C} {Q : tf_Q} {h : LH} (hn : 297 ≤ nc) {x1 : Int32} {x2 : Int32} (q : ((h.1 271 (1 : Int32).toNatClampNeg) ≤ x2 → lx_X9_billed nc C Q 36 [.ref (270), .int (x1), .int (x2)] [] h) ∧ (¬ (h.1 271 (1 : Int32).toNatClampNeg) ≤ x2 → C 3 [.ref (270), .int (x2), .int (4)] h (fun r g => lx_X9_billed nc C Q 21 [.ref (270), .int (x1), .int (x2)] (r :: [.int (x1)]) g))) : lx_X9_billed nc C Q 4 [.ref (270), .int (x1), .int (x2)] [] h := by
  refine tf_LW_go ?_
  exact ⟨⟨(by first | rfl | trivial), (show 270 < nc by omega)⟩, ⟨⟨(by first | rfl | trivial), (show 271 < nc by omega), (vp_in_iff.mpr (by decide))⟩, ⟨q.1, fun c1 => ⟨Nat.le_of_ble_eq_true rfl, Nat.le_of_ble_eq_true rfl, (q.2 c1)⟩⟩⟩⟩
set_option maxRecDepth 100000 in
theorem go_X9_billed_21 {nc : Nat} {C : tf_C} {Q : tf_Q} {h : LH} (hn : 297 ≤ nc) {x1 : Int32} {x2 : Int32} {y0 : Int32} {y1 : Int32} (q : C 3 [.ref (270), .int (x2), .int (3)] h (fun r g => lx_X9_billed nc C Q 27 [.ref (270), .int (x1), .int (x2)] (r :: [.int (y1), .int (y0)]) g)) : lx_X9_billed nc C Q 21 [.ref (270), .int (x1), .int (x2)] [.int (y1), .int (y0)] h := by
  refine tf_LW_go ?_
  exact ⟨Nat.le_of_ble_eq_true rfl, Nat.le_of_ble_eq_true rfl, q⟩
set_option maxRecDepth 100000 in
theorem go_X9_billed_27 {nc : Nat} {C : tf_C} {Q : tf_Q} {h : LH} (hn : 297 ≤ nc) {x1 : Int32} {x2 : Int32} {y0 : Int32} {y1 : Int32} {y2 : Int32} (q : lx_X9_billed nc C Q 4 [.ref (270), .int (y0 + (y1 * y2)), .int (x2 + 1)] [] h) : lx_X9_billed nc C Q 27 [.ref (270), .int (x1), .int (x2)] [.int (y2), .int (y1), .int (y0)] h := by
  refine tf_LW_go ?_
  exact q
set_option maxRecDepth 100000 in
theorem go_X9_billed_36 {nc : Nat} {C : tf_C} {Q : tf_Q} {h : LH} (hn : 297 ≤ nc) {x1 : Int32} {x2 : Int32} (q : Q (.int (x1)) h) : lx_X9_billed nc C Q 36 [.ref (270), .int (x1), .int (x2)] [] h := by
  refine tf_LW_go ?_
  exact ⟨(by first | trivial | rfl), q⟩
abbrev lx_X9_bill (nc : Nat) (C : tf_C) (Q : tf_Q) : tf_X := tf_LW nc C (tf_F 7) (tf_M 7) (tf_I 7) (tf_Eh 83) 1 tb_X9_bill Q
set_option maxRecDepth 100000 in
theorem go_X9_bill_0 {nc : Nat} {C : tf_C} {Q : tf_Q} {h : LH} (hn : 297 ≤ nc) {x1 : Int32} (q : C 82 [.ref (270)] (tf_up h.1 270 0 0, h.2) (fun r g => lx_X9_bill nc C Q 9 [.ref (270), .int (x1), tf_z, tf_z] (r :: []) g)) : lx_X9_bill nc C Q 0 [.ref (270), .int (x1), tf_z, tf_z] [] h := by
  refine tf_LW_go ?_
  exact ⟨⟨(by first | rfl | trivial), (show 270 < nc by omega), (by first | rfl | trivial)⟩, ⟨Nat.le_of_ble_eq_true rfl, Nat.le_of_ble_eq_true rfl, q⟩⟩
theorem en_X9_bill {nc d : Nat} {Q : tf_Q} {h : LH} (hn : 297 ≤ nc) {x1 : Int32} (q : lx_X9_bill nc (tf_Cd nc d) Q 0 [.ref (270), .int (x1), tf_z, tf_z] [] h) : tf_Cd nc (d + 1) 83 [.ref (270), .int (x1)] h Q := by
  exact ⟨⟨Nat.le_of_ble_eq_true rfl, Or.inr ⟨rfl, (show 270 < nc by omega)⟩⟩, q⟩
set_option maxRecDepth 100000 in
theorem go_X9_bill_9 {nc : Nat} {C : tf_C} {Q : tf_Q} {h : LH} (hn : 297 ≤ nc) {x1 : Int32} {y0 : Int32} (q : ((lg_cmp (((y0 : Int32).toInt64) * ((x1 : Int32).toInt64)) (((((y0 : Int32).toInt64) * ((x1 : Int32).toInt64) : Int64).toInt32 : Int32).toInt64)) = (0 : Int32) → lx_X9_bill nc C Q 30 [.ref (270), .int (x1), .long (((y0 : Int32).toInt64) * ((x1 : Int32).toInt64)), tf_z] [.int ((((y0 : Int32).toInt64) * ((x1 : Int32).toInt64) : Int64).toInt32)] h) ∧ (¬ (lg_cmp (((y0 : Int32).toInt64) * ((x1 : Int32).toInt64)) (((((y0 : Int32).toInt64) * ((x1 : Int32).toInt64) : Int64).toInt32 : Int32).toInt64)) = (0 : Int32) → lx_X9_bill nc C Q 27 [.ref (270), .int (x1), .long (((y0 : Int32).toInt64) * ((x1 : Int32).toInt64)), tf_z] [] h)) : lx_X9_bill nc C Q 9 [.ref (270), .int (x1), tf_z, tf_z] [.int (y0)] h := by
  refine tf_LW_go ?_
  exact ⟨fun c1 => (q.1 c1), q.2⟩
set_option maxRecDepth 100000 in
theorem go_X9_bill_27 {nc : Nat} {C : tf_C} {Q : tf_Q} {h : LH} (hn : 297 ≤ nc) {x1 : Int32} {x2 : Int64} (q : lx_X9_bill nc C Q 30 [.ref (270), .int (x1), .long (x2), tf_z] [.int ((-2147483648))] h) : lx_X9_bill nc C Q 27 [.ref (270), .int (x1), .long (x2), tf_z] [] h := by
  refine tf_LW_go ?_
  exact q
set_option maxRecDepth 100000 in
theorem go_X9_bill_30 {nc : Nat} {C : tf_C} {Q : tf_Q} {h : LH} (hn : 297 ≤ nc) {x1 : Int32} {x2 : Int64} {y0 : Int32} (q : Q (.int (y0)) h) : lx_X9_bill nc C Q 30 [.ref (270), .int (x1), .long (x2), tf_z] [.int (y0)] h := by
  refine tf_LW_go ?_
  exact ⟨(by first | trivial | rfl), q⟩
abbrev lx_X9_flowAt (nc : Nat) (C : tf_C) (Q : tf_Q) : tf_X := tf_LW nc C (tf_F 7) (tf_M 7) (tf_I 7) (tf_Eh 84) 1 tb_X9_flowAt Q
set_option maxRecDepth 100000 in
theorem go_X9_flowAt_0 {nc : Nat} {C : tf_C} {Q : tf_Q} {h : LH} (hn : 297 ≤ nc) {x1 : Int32} (q : lx_X9_flowAt nc C Q 4 [.ref (270), .int (x1), .int (0), .int (0)] [] h) : lx_X9_flowAt nc C Q 0 [.ref (270), .int (x1), tf_z, tf_z] [] h := by
  refine tf_LW_go ?_
  exact q
theorem en_X9_flowAt {nc d : Nat} {Q : tf_Q} {h : LH} (hn : 297 ≤ nc) {x1 : Int32} (q : lx_X9_flowAt nc (tf_Cd nc d) Q 0 [.ref (270), .int (x1), tf_z, tf_z] [] h) : tf_Cd nc (d + 1) 84 [.ref (270), .int (x1)] h Q := by
  exact ⟨⟨Nat.le_of_ble_eq_true rfl, Or.inr ⟨rfl, (show 270 < nc by omega)⟩⟩, q⟩
set_option maxRecDepth 100000 in
theorem go_X9_flowAt_4 {nc : Nat} {C : tf_C} {Q : tf_Q} {h : LH} (hn : 297 ≤ nc) {x1 : Int32} {x2 : Int32} {x3 : Int32} (q : ((h.1 271 (1 : Int32).toNatClampNeg) ≤ x3 → lx_X9_flowAt nc C Q 43 [.ref (270), .int (x1), .int (x2), .int (x3)] [] h) ∧ (¬ (h.1 271 (1 : Int32).toNatClampNeg) ≤ x3 → C 3 [.ref (270), .int (x3), .int (3)] h (fun r g => lx_X9_flowAt nc C Q 21 [.ref (270), .int (x1), .int (x2), .int (x3)] (r :: [.int (x2)]) g))) : lx_X9_flowAt nc C Q 4 [.ref (270), .int (x1), .int (x2), .int (x3)] [] h := by
  refine tf_LW_go ?_
  exact ⟨⟨(by first | rfl | trivial), (show 270 < nc by omega)⟩, ⟨⟨(by first | rfl | trivial), (show 271 < nc by omega), (vp_in_iff.mpr (by decide))⟩, ⟨q.1, fun c1 => ⟨Nat.le_of_ble_eq_true rfl, Nat.le_of_ble_eq_true rfl, (q.2 c1)⟩⟩⟩⟩
set_option maxRecDepth 100000 in
theorem go_X9_flowAt_21 {nc : Nat} {C : tf_C} {Q : tf_Q} {h : LH} (hn : 297 ≤ nc) {x1 : Int32} {x2 : Int32} {x3 : Int32} {y0 : Int32} {y1 : Int32} (q : (y1 = x1 → C 3 [.ref (270), .int (x3), .int (4)] h (fun r g => lx_X9_flowAt nc C Q 31 [.ref (270), .int (x1), .int (x2), .int (x3)] (r :: [.int (y0)]) g)) ∧ (¬ y1 = x1 → lx_X9_flowAt nc C Q 34 [.ref (270), .int (x1), .int (x2), .int (x3)] [.int (y0)] h)) : lx_X9_flowAt nc C Q 21 [.ref (270), .int (x1), .int (x2), .int (x3)] [.int (y1), .int (y0)] h := by
  refine tf_LW_go ?_
  exact ⟨fun c1 => ⟨Nat.le_of_ble_eq_true rfl, Nat.le_of_ble_eq_true rfl, (q.1 c1)⟩, q.2⟩
set_option maxRecDepth 100000 in
theorem go_X9_flowAt_31 {nc : Nat} {C : tf_C} {Q : tf_Q} {h : LH} (hn : 297 ≤ nc) {x1 : Int32} {x2 : Int32} {x3 : Int32} {y0 : Int32} {y1 : Int32} (q : lx_X9_flowAt nc C Q 35 [.ref (270), .int (x1), .int (x2), .int (x3)] [.int (y1), .int (y0)] h) : lx_X9_flowAt nc C Q 31 [.ref (270), .int (x1), .int (x2), .int (x3)] [.int (y1), .int (y0)] h := by
  refine tf_LW_go ?_
  exact q
set_option maxRecDepth 100000 in
theorem go_X9_flowAt_34 {nc : Nat} {C : tf_C} {Q : tf_Q} {h : LH} (hn : 297 ≤ nc) {x1 : Int32} {x2 : Int32} {x3 : Int32} {y0 : Int32} (q : lx_X9_flowAt nc C Q 35 [.ref (270), .int (x1), .int (x2), .int (x3)] [.int (0), .int (y0)] h) : lx_X9_flowAt nc C Q 34 [.ref (270), .int (x1), .int (x2), .int (x3)] [.int (y0)] h := by
  refine tf_LW_go ?_
  exact q
set_option maxRecDepth 100000 in
theorem go_X9_flowAt_35 {nc : Nat} {C : tf_C} {Q : tf_Q} {h : LH} (hn : 297 ≤ nc) {x1 : Int32} {x2 : Int32} {x3 : Int32} {y0 : Int32} {y1 : Int32} (q : lx_X9_flowAt nc C Q 4 [.ref (270), .int (x1), .int (y0 + y1), .int (x3 + 1)] [] h) : lx_X9_flowAt nc C Q 35 [.ref (270), .int (x1), .int (x2), .int (x3)] [.int (y1), .int (y0)] h := by
  refine tf_LW_go ?_
  exact q
set_option maxRecDepth 100000 in
theorem go_X9_flowAt_43 {nc : Nat} {C : tf_C} {Q : tf_Q} {h : LH} (hn : 297 ≤ nc) {x1 : Int32} {x2 : Int32} {x3 : Int32} (q : Q (.int (x2)) h) : lx_X9_flowAt nc C Q 43 [.ref (270), .int (x1), .int (x2), .int (x3)] [] h := by
  refine tf_LW_go ?_
  exact ⟨(by first | trivial | rfl), q⟩
abbrev lx_X9_ledger (nc : Nat) (C : tf_C) (Q : tf_Q) : tf_X := tf_LW nc C (tf_F 7) (tf_M 7) (tf_I 7) (tf_Eh 85) 1 tb_X9_ledger Q
set_option maxRecDepth 100000 in
theorem go_X9_ledger_0 {nc : Nat} {C : tf_C} {Q : tf_Q} {h : LH} (hn : 297 ≤ nc) {x1 : Int32} {x2 : Int32} (q : lx_X9_ledger nc C Q 11 [.ref (270), .int (x1), .int (x2), .int (0), .int ((-99))] [] (tf_up h.1 270 0 0, h.2)) : lx_X9_ledger nc C Q 0 [.ref (270), .int (x1), .int (x2), tf_z, tf_z] [] h := by
  refine tf_LW_go ?_
  exact ⟨⟨(by first | rfl | trivial), (show 270 < nc by omega), (by first | rfl | trivial)⟩, q⟩
theorem en_X9_ledger {nc d : Nat} {Q : tf_Q} {h : LH} (hn : 297 ≤ nc) {x1 : Int32} {x2 : Int32} (q : lx_X9_ledger nc (tf_Cd nc d) Q 0 [.ref (270), .int (x1), .int (x2), tf_z, tf_z] [] h) : tf_Cd nc (d + 1) 85 [.ref (270), .int (x1), .int (x2)] h Q := by
  exact ⟨⟨Nat.le_of_ble_eq_true rfl, Or.inr ⟨rfl, (show 270 < nc by omega)⟩⟩, q⟩
set_option maxRecDepth 100000 in
theorem go_X9_ledger_11 {nc : Nat} {C : tf_C} {Q : tf_Q} {h : LH} (hn : 297 ≤ nc) {x1 : Int32} {x2 : Int32} {x3 : Int32} {x4 : Int32} (q : ((99 : Int32) < x4 → lx_X9_ledger nc C Q 57 [.ref (270), .int (x1), .int (x2), .int (x3), .int (x4)] [] h) ∧ (¬ (99 : Int32) < x4 → C 84 [.ref (270), .int (x4)] h (fun r g => lx_X9_ledger nc C Q 24 [.ref (270), .int (x1), .int (x2), .int (x3), .int (x4)] (r :: []) g))) : lx_X9_ledger nc C Q 11 [.ref (270), .int (x1), .int (x2), .int (x3), .int (x4)] [] h := by
  refine tf_LW_go ?_
  exact ⟨q.1, fun c1 => ⟨Nat.le_of_ble_eq_true rfl, Nat.le_of_ble_eq_true rfl, (q.2 c1)⟩⟩
set_option maxRecDepth 100000 in
theorem go_X9_ledger_24 {nc : Nat} {C : tf_C} {Q : tf_Q} {h : LH} (hn : 297 ≤ nc) {x1 : Int32} {x2 : Int32} {x3 : Int32} {x4 : Int32} {y0 : Int32} (q : (y0 ≤ (0 : Int32) → lx_X9_ledger nc C Q 51 [.ref (270), .int (x1), .int (x2), .int (x3), .int (x4)] [] h) ∧ (¬ y0 ≤ (0 : Int32) → (x3 = x1 → (x2 = (0 : Int32) → lx_X9_ledger nc C Q 45 [.ref (270), .int (x1), .int (x2), .int (x3), .int (x4)] [] h) ∧ (¬ x2 = (0 : Int32) → C 84 [.ref (270), .int (x4)] h (fun r g => lx_X9_ledger nc C Q 42 [.ref (270), .int (x1), .int (x2), .int (x3), .int (x4)] (r :: []) g))) ∧ (¬ x3 = x1 → lx_X9_ledger nc C Q 48 [.ref (270), .int (x1), .int (x2), .int (x3), .int (x4)] [] h))) : lx_X9_ledger nc C Q 24 [.ref (270), .int (x1), .int (x2), .int (x3), .int (x4)] [.int (y0)] h := by
  refine tf_LW_go ?_
  exact ⟨q.1, fun c3 => ⟨fun c2 => ⟨((q.2 c3).1 c2).1, fun c1 => ⟨Nat.le_of_ble_eq_true rfl, Nat.le_of_ble_eq_true rfl, (((q.2 c3).1 c2).2 c1)⟩⟩, (q.2 c3).2⟩⟩
set_option maxRecDepth 100000 in
theorem go_X9_ledger_42 {nc : Nat} {C : tf_C} {Q : tf_Q} {h : LH} (hn : 297 ≤ nc) {x1 : Int32} {x2 : Int32} {x3 : Int32} {x4 : Int32} {y0 : Int32} (q : lx_X9_ledger nc C Q 47 [.ref (270), .int (x1), .int (x2), .int (x3), .int (x4)] [.int (y0)] h) : lx_X9_ledger nc C Q 42 [.ref (270), .int (x1), .int (x2), .int (x3), .int (x4)] [.int (y0)] h := by
  refine tf_LW_go ?_
  exact q
set_option maxRecDepth 100000 in
theorem go_X9_ledger_45 {nc : Nat} {C : tf_C} {Q : tf_Q} {h : LH} (hn : 297 ≤ nc) {x1 : Int32} {x2 : Int32} {x3 : Int32} {x4 : Int32} (q : lx_X9_ledger nc C Q 47 [.ref (270), .int (x1), .int (x2), .int (x3), .int (x4)] [.int (x4)] h) : lx_X9_ledger nc C Q 45 [.ref (270), .int (x1), .int (x2), .int (x3), .int (x4)] [] h := by
  refine tf_LW_go ?_
  exact q
set_option maxRecDepth 100000 in
theorem go_X9_ledger_47 {nc : Nat} {C : tf_C} {Q : tf_Q} {h : LH} (hn : 297 ≤ nc) {x1 : Int32} {x2 : Int32} {x3 : Int32} {x4 : Int32} {y0 : Int32} (q : Q (.int (y0)) h) : lx_X9_ledger nc C Q 47 [.ref (270), .int (x1), .int (x2), .int (x3), .int (x4)] [.int (y0)] h := by
  refine tf_LW_go ?_
  exact ⟨(by first | trivial | rfl), q⟩
set_option maxRecDepth 100000 in
theorem go_X9_ledger_48 {nc : Nat} {C : tf_C} {Q : tf_Q} {h : LH} (hn : 297 ≤ nc) {x1 : Int32} {x2 : Int32} {x3 : Int32} {x4 : Int32} (q : lx_X9_ledger nc C Q 51 [.ref (270), .int (x1), .int (x2), .int (x3 + 1), .int (x4)] [] h) : lx_X9_ledger nc C Q 48 [.ref (270), .int (x1), .int (x2), .int (x3), .int (x4)] [] h := by
  refine tf_LW_go ?_
  exact q
set_option maxRecDepth 100000 in
theorem go_X9_ledger_51 {nc : Nat} {C : tf_C} {Q : tf_Q} {h : LH} (hn : 297 ≤ nc) {x1 : Int32} {x2 : Int32} {x3 : Int32} {x4 : Int32} (q : lx_X9_ledger nc C Q 11 [.ref (270), .int (x1), .int (x2), .int (x3), .int (x4 + 1)] [] h) : lx_X9_ledger nc C Q 51 [.ref (270), .int (x1), .int (x2), .int (x3), .int (x4)] [] h := by
  refine tf_LW_go ?_
  exact q
set_option maxRecDepth 100000 in
theorem go_X9_ledger_57 {nc : Nat} {C : tf_C} {Q : tf_Q} {h : LH} (hn : 297 ≤ nc) {x1 : Int32} {x2 : Int32} {x3 : Int32} {x4 : Int32} (q : (x1 = ((-1) : Int32) → lx_X9_ledger nc C Q 69 [.ref (270), .int (x1), .int (x2), .int (x3), .int (x4)] [.int (x3)] h) ∧ (¬ x1 = ((-1) : Int32) → lx_X9_ledger nc C Q 66 [.ref (270), .int (x1), .int (x2), .int (x3), .int (x4)] [] h)) : lx_X9_ledger nc C Q 57 [.ref (270), .int (x1), .int (x2), .int (x3), .int (x4)] [] h := by
  refine tf_LW_go ?_
  exact ⟨fun c1 => (q.1 c1), q.2⟩
set_option maxRecDepth 100000 in
theorem go_X9_ledger_66 {nc : Nat} {C : tf_C} {Q : tf_Q} {h : LH} (hn : 297 ≤ nc) {x1 : Int32} {x2 : Int32} {x3 : Int32} {x4 : Int32} (q : lx_X9_ledger nc C Q 69 [.ref (270), .int (x1), .int (x2), .int (x3), .int (x4)] [.int ((-1000))] h) : lx_X9_ledger nc C Q 66 [.ref (270), .int (x1), .int (x2), .int (x3), .int (x4)] [] h := by
  refine tf_LW_go ?_
  exact q
set_option maxRecDepth 100000 in
theorem go_X9_ledger_69 {nc : Nat} {C : tf_C} {Q : tf_Q} {h : LH} (hn : 297 ≤ nc) {x1 : Int32} {x2 : Int32} {x3 : Int32} {x4 : Int32} {y0 : Int32} (q : Q (.int (y0)) h) : lx_X9_ledger nc C Q 69 [.ref (270), .int (x1), .int (x2), .int (x3), .int (x4)] [.int (y0)] h := by
  refine tf_LW_go ?_
  exact ⟨(by first | trivial | rfl), q⟩
abbrev lx_X9_wide (nc : Nat) (C : tf_C) (Q : tf_Q) : tf_X := tf_LW nc C (tf_F 7) (tf_M 7) (tf_I 7) (tf_Eh 86) 1 tb_X9_wide Q
set_option maxRecDepth 100000 in
theorem go_X9_wide_0 {nc : Nat} {C : tf_C} {Q : tf_Q} {h : LH} (hn : 297 ≤ nc) {x1 : Int32} {x2 : Int32} (q : C 7 [.ref (270), .int (x1), .int (x2)] (tf_up h.1 270 0 0, h.2) (fun r g => lx_X9_wide nc C Q 11 [.ref (270), .int (x1), .int (x2), tf_z, tf_z, tf_z] (r :: []) g)) : lx_X9_wide nc C Q 0 [.ref (270), .int (x1), .int (x2), tf_z, tf_z, tf_z] [] h := by
  refine tf_LW_go ?_
  exact ⟨⟨(by first | rfl | trivial), (show 270 < nc by omega), (by first | rfl | trivial)⟩, ⟨Nat.le_of_ble_eq_true rfl, Nat.le_of_ble_eq_true rfl, q⟩⟩
theorem en_X9_wide {nc d : Nat} {Q : tf_Q} {h : LH} (hn : 297 ≤ nc) {x1 : Int32} {x2 : Int32} (q : lx_X9_wide nc (tf_Cd nc d) Q 0 [.ref (270), .int (x1), .int (x2), tf_z, tf_z, tf_z] [] h) : tf_Cd nc (d + 1) 86 [.ref (270), .int (x1), .int (x2)] h Q := by
  exact ⟨⟨Nat.le_of_ble_eq_true rfl, Or.inr ⟨rfl, (show 270 < nc by omega)⟩⟩, q⟩
set_option maxRecDepth 100000 in
theorem go_X9_wide_11 {nc : Nat} {C : tf_C} {Q : tf_Q} {h : LH} (hn : 297 ≤ nc) {x1 : Int32} {x2 : Int32} {y0 : Int32} (q : (y0 = (0 : Int32) → Q (.int ((-1))) h) ∧ (¬ y0 = (0 : Int32) → lx_X9_wide nc C Q 16 [.ref (270), .int (x1), .int (x2), tf_z, tf_z, tf_z] [] h)) : lx_X9_wide nc C Q 11 [.ref (270), .int (x1), .int (x2), tf_z, tf_z, tf_z] [.int (y0)] h := by
  refine tf_LW_go ?_
  exact ⟨fun c1 => ⟨(by first | trivial | rfl), (q.1 c1)⟩, q.2⟩
set_option maxRecDepth 100000 in
theorem go_X9_wide_16 {nc : Nat} {C : tf_C} {Q : tf_Q} {h : LH} (hn : 297 ≤ nc) {x1 : Int32} {x2 : Int32} (q : lx_X9_wide nc C Q 18 [.ref (270), .int (x1), .int (x2), .int (0), tf_z, tf_z] [] h) : lx_X9_wide nc C Q 16 [.ref (270), .int (x1), .int (x2), tf_z, tf_z, tf_z] [] h := by
  refine tf_LW_go ?_
  exact q
set_option maxRecDepth 100000 in
theorem go_X9_wide_18 {nc : Nat} {C : tf_C} {Q : tf_Q} {h : LH} (hn : 297 ≤ nc) {x1 : Int32} {x2 : Int32} {x3 : Int32} (q : ((64 : Int32) ≤ x3 → lx_X9_wide nc C Q 37 [.ref (270), .int (x1), .int (x2), .int (x3), tf_z, tf_z] [] h) ∧ (¬ (64 : Int32) ≤ x3 → (vp_in x3 64) ∧ lx_X9_wide nc C Q 18 [.ref (270), .int (x1), .int (x2), .int (x3 + 1), tf_z, tf_z] [] (tf_up h.1 287 (x3 : Int32).toNatClampNeg 0, h.2))) : lx_X9_wide nc C Q 18 [.ref (270), .int (x1), .int (x2), .int (x3), tf_z, tf_z] [] h := by
  refine tf_LW_go ?_
  exact ⟨q.1, fun c1 => ⟨⟨(by first | rfl | trivial), (show 270 < nc by omega)⟩, ⟨⟨(by first | rfl | trivial), (show 287 < nc by omega), (q.2 c1).1⟩, (q.2 c1).2⟩⟩⟩
set_option maxRecDepth 100000 in
theorem go_X9_wide_37 {nc : Nat} {C : tf_C} {Q : tf_Q} {h : LH} (hn : 297 ≤ nc) {x1 : Int32} {x2 : Int32} {x3 : Int32} (q : lx_X9_wide nc C Q 39 [.ref (270), .int (x1), .int (x2), .int (0), tf_z, tf_z] [] h) : lx_X9_wide nc C Q 37 [.ref (270), .int (x1), .int (x2), .int (x3), tf_z, tf_z] [] h := by
  refine tf_LW_go ?_
  exact q
set_option maxRecDepth 100000 in
theorem go_X9_wide_39 {nc : Nat} {C : tf_C} {Q : tf_Q} {h : LH} (hn : 297 ≤ nc) {x1 : Int32} {x2 : Int32} {x3 : Int32} {x4 : Value} {x5 : Value} (q : ((h.1 271 (1 : Int32).toNatClampNeg) ≤ x3 → lx_X9_wide nc C Q 174 [.ref (270), .int (x1), .int (x2), .int (x3), x4, x5] [] h) ∧ (¬ (h.1 271 (1 : Int32).toNatClampNeg) ≤ x3 → C 3 [.ref (270), .int (x3), .int (0)] h (fun r g => lx_X9_wide nc C Q 57 [.ref (270), .int (x1), .int (x2), .int (x3), x4, x5] (r :: [.int (8)]) g))) : lx_X9_wide nc C Q 39 [.ref (270), .int (x1), .int (x2), .int (x3), x4, x5] [] h := by
  refine tf_LW_go ?_
  exact ⟨⟨(by first | rfl | trivial), (show 270 < nc by omega)⟩, ⟨⟨(by first | rfl | trivial), (show 271 < nc by omega), (vp_in_iff.mpr (by decide))⟩, ⟨q.1, fun c1 => ⟨Nat.le_of_ble_eq_true rfl, Nat.le_of_ble_eq_true rfl, (q.2 c1)⟩⟩⟩⟩
set_option maxRecDepth 100000 in
theorem go_X9_wide_57 {nc : Nat} {C : tf_C} {Q : tf_Q} {h : LH} (hn : 297 ≤ nc) {x1 : Int32} {x2 : Int32} {x3 : Int32} {x4 : Value} {x5 : Value} {y0 : Int32} {y1 : Int32} (q : C 3 [.ref (270), .int (x3), .int (1)] h (fun r g => lx_X9_wide nc C Q 64 [.ref (270), .int (x1), .int (x2), .int (x3), x4, x5] (r :: [.int (y0 * y1)]) g)) : lx_X9_wide nc C Q 57 [.ref (270), .int (x1), .int (x2), .int (x3), x4, x5] [.int (y1), .int (y0)] h := by
  refine tf_LW_go ?_
  exact ⟨Nat.le_of_ble_eq_true rfl, Nat.le_of_ble_eq_true rfl, q⟩
set_option maxRecDepth 100000 in
theorem go_X9_wide_64 {nc : Nat} {C : tf_C} {Q : tf_Q} {h : LH} (hn : 297 ≤ nc) {x1 : Int32} {x2 : Int32} {x3 : Int32} {x4 : Value} {x5 : Value} {y0 : Int32} {y1 : Int32} (q : C 3 [.ref (270), .int (x3), .int (1)] h (fun r g => lx_X9_wide nc C Q 75 [.ref (270), .int (x1), .int (x2), .int (x3), .int (y0 + y1), x5] (r :: [.int (8)]) g)) : lx_X9_wide nc C Q 64 [.ref (270), .int (x1), .int (x2), .int (x3), x4, x5] [.int (y1), .int (y0)] h := by
  refine tf_LW_go ?_
  exact ⟨Nat.le_of_ble_eq_true rfl, Nat.le_of_ble_eq_true rfl, q⟩
set_option maxRecDepth 100000 in
theorem go_X9_wide_75 {nc : Nat} {C : tf_C} {Q : tf_Q} {h : LH} (hn : 297 ≤ nc) {x1 : Int32} {x2 : Int32} {x3 : Int32} {x4 : Int32} {x5 : Value} {y0 : Int32} {y1 : Int32} (q : C 3 [.ref (270), .int (x3), .int (0)] h (fun r g => lx_X9_wide nc C Q 82 [.ref (270), .int (x1), .int (x2), .int (x3), .int (x4), x5] (r :: [.int (y0 * y1)]) g)) : lx_X9_wide nc C Q 75 [.ref (270), .int (x1), .int (x2), .int (x3), .int (x4), x5] [.int (y1), .int (y0)] h := by
  refine tf_LW_go ?_
  exact ⟨Nat.le_of_ble_eq_true rfl, Nat.le_of_ble_eq_true rfl, q⟩
set_option maxRecDepth 100000 in
theorem go_X9_wide_82 {nc : Nat} {C : tf_C} {Q : tf_Q} {h : LH} (hn : 297 ≤ nc) {x1 : Int32} {x2 : Int32} {x3 : Int32} {x4 : Int32} {x5 : Value} {y0 : Int32} {y1 : Int32} (q : (vp_in x4 64) ∧ C 3 [.ref (270), .int (x3), .int (6)] h (fun r g => lx_X9_wide nc C Q 105 [.ref (270), .int (x1), .int (x2), .int (x3), .int (x4), .int (y0 + y1)] (r :: [.int (h.1 287 (x4 : Int32).toNatClampNeg), .int (x4), .ref (287)]) g)) : lx_X9_wide nc C Q 82 [.ref (270), .int (x1), .int (x2), .int (x3), .int (x4), x5] [.int (y1), .int (y0)] h := by
  refine tf_LW_go ?_
  exact ⟨⟨(by first | rfl | trivial), (show 270 < nc by omega)⟩, ⟨⟨(by first | rfl | trivial), (show 270 < nc by omega)⟩, ⟨⟨(by first | rfl | trivial), (show 287 < nc by omega), q.1⟩, ⟨Nat.le_of_ble_eq_true rfl, Nat.le_of_ble_eq_true rfl, q.2⟩⟩⟩⟩
set_option maxRecDepth 100000 in
theorem go_X9_wide_105 {nc : Nat} {C : tf_C} {Q : tf_Q} {h : LH} (hn : 297 ≤ nc) {x1 : Int32} {x2 : Int32} {x3 : Int32} {x4 : Int32} {x5 : Int32} {y0 ny0 : Nat} {y1 : Int32} {y2 : Int32} {y3 : Int32} (Ky0_0 : tf_K y0 = 8) (Ny0_0 : tf_N y0 = ny0) (By0 : y0 < nc) (q : (y3 = (1 : Int32) → lx_X9_wide nc C Q 126 [.ref (270), .int (x1), .int (x2), .int (x3), .int (x4), .int (x5)] [.int (0), .int (y2), .int (y1), .ref (y0)] h) ∧ (¬ y3 = (1 : Int32) → lx_X9_wide nc C Q 113 [.ref (270), .int (x1), .int (x2), .int (x3), .int (x4), .int (x5)] [.int (y2), .int (y1), .ref (y0)] h)) : lx_X9_wide nc C Q 105 [.ref (270), .int (x1), .int (x2), .int (x3), .int (x4), .int (x5)] [.int (y3), .int (y2), .int (y1), .ref (y0)] h := by
  refine tf_LW_go ?_
  show (y3 = (1 : Int32) → lx_X9_wide nc C Q 126 [.ref (270), .int (x1), .int (x2), .int (x3), .int (x4), .int (x5)] [.int (0), .int (y2), .int (y1), .ref (y0)] h) ∧ (¬ y3 = (1 : Int32) → lx_X9_wide nc C Q 113 [.ref (270), .int (x1), .int (x2), .int (x3), .int (x4), .int (x5)] [.int (y2), .int (y1), .ref (y0)] h)
  try simp only [Ny0_0]
  exact ⟨fun c1 => (q.1 c1), q.2⟩
set_option maxRecDepth 100000 in
theorem go_X9_wide_113 {nc : Nat} {C : tf_C} {Q : tf_Q} {h : LH} (hn : 297 ≤ nc) {x1 : Int32} {x2 : Int32} {x3 : Int32} {x4 : Int32} {x5 : Int32} {y0 ny0 : Nat} {y1 : Int32} {y2 : Int32} (Ky0_0 : tf_K y0 = 8) (Ny0_0 : tf_N y0 = ny0) (By0 : y0 < nc) (q : C 3 [.ref (270), .int (x3), .int (2)] h (fun r g => lx_X9_wide nc C Q 119 [.ref (270), .int (x1), .int (x2), .int (x3), .int (x4), .int (x5)] (r :: [.int (y2), .int (y1), .ref (y0)]) g)) : lx_X9_wide nc C Q 113 [.ref (270), .int (x1), .int (x2), .int (x3), .int (x4), .int (x5)] [.int (y2), .int (y1), .ref (y0)] h := by
  refine tf_LW_go ?_
  show 3 ≤ 6 ∧ 3 ≤ 8 ∧ C 3 [.ref (270), .int (x3), .int (2)] h (fun r g => lx_X9_wide nc C Q 119 [.ref (270), .int (x1), .int (x2), .int (x3), .int (x4), .int (x5)] (r :: [.int (y2), .int (y1), .ref (y0)]) g)
  try simp only [Ny0_0]
  exact ⟨Nat.le_of_ble_eq_true rfl, Nat.le_of_ble_eq_true rfl, q⟩
set_option maxRecDepth 100000 in
theorem go_X9_wide_119 {nc : Nat} {C : tf_C} {Q : tf_Q} {h : LH} (hn : 297 ≤ nc) {x1 : Int32} {x2 : Int32} {x3 : Int32} {x4 : Int32} {x5 : Int32} {y0 ny0 : Nat} {y1 : Int32} {y2 : Int32} {y3 : Int32} (Ky0_0 : tf_K y0 = 8) (Ny0_0 : tf_N y0 = ny0) (By0 : y0 < nc) (q : C 3 [.ref (270), .int (x3), .int (4)] h (fun r g => lx_X9_wide nc C Q 125 [.ref (270), .int (x1), .int (x2), .int (x3), .int (x4), .int (x5)] (r :: [.int (y3), .int (y2), .int (y1), .ref (y0)]) g)) : lx_X9_wide nc C Q 119 [.ref (270), .int (x1), .int (x2), .int (x3), .int (x4), .int (x5)] [.int (y3), .int (y2), .int (y1), .ref (y0)] h := by
  refine tf_LW_go ?_
  show 3 ≤ 7 ∧ 4 ≤ 8 ∧ C 3 [.ref (270), .int (x3), .int (4)] h (fun r g => lx_X9_wide nc C Q 125 [.ref (270), .int (x1), .int (x2), .int (x3), .int (x4), .int (x5)] (r :: [.int (y3), .int (y2), .int (y1), .ref (y0)]) g)
  try simp only [Ny0_0]
  exact ⟨Nat.le_of_ble_eq_true rfl, Nat.le_of_ble_eq_true rfl, q⟩
set_option maxRecDepth 100000 in
theorem go_X9_wide_125 {nc : Nat} {C : tf_C} {Q : tf_Q} {h : LH} (hn : 297 ≤ nc) {x1 : Int32} {x2 : Int32} {x3 : Int32} {x4 : Int32} {x5 : Int32} {y0 ny0 : Nat} {y1 : Int32} {y2 : Int32} {y3 : Int32} {y4 : Int32} (Ky0_0 : tf_K y0 = 8) (Ny0_0 : tf_N y0 = ny0) (By0 : y0 < nc) (q : lx_X9_wide nc C Q 126 [.ref (270), .int (x1), .int (x2), .int (x3), .int (x4), .int (x5)] [.int (y3 - y4), .int (y2), .int (y1), .ref (y0)] h) : lx_X9_wide nc C Q 125 [.ref (270), .int (x1), .int (x2), .int (x3), .int (x4), .int (x5)] [.int (y4), .int (y3), .int (y2), .int (y1), .ref (y0)] h := by
  refine tf_LW_go ?_
  show lx_X9_wide nc C Q 126 [.ref (270), .int (x1), .int (x2), .int (x3), .int (x4), .int (x5)] [.int (y3 - y4), .int (y2), .int (y1), .ref (y0)] h
  try simp only [Ny0_0]
  exact q
set_option maxRecDepth 100000 in
theorem go_X9_wide_126 {nc : Nat} {C : tf_C} {Q : tf_Q} {h : LH} (hn : 297 ≤ nc) {x1 : Int32} {x2 : Int32} {x3 : Int32} {x4 : Int32} {x5 : Int32} {y0 ny0 : Nat} {y1 : Int32} {y2 : Int32} {y3 : Int32} (Ky0_0 : tf_K y0 = 8) (Ny0_0 : tf_N y0 = ny0) (By0 : y0 < nc) (q : C 2 [.int (y2), .int (y3)] h (fun r g => lx_X9_wide nc C Q 129 [.ref (270), .int (x1), .int (x2), .int (x3), .int (x4), .int (x5)] (r :: [.int (y1), .ref (y0)]) g)) : lx_X9_wide nc C Q 126 [.ref (270), .int (x1), .int (x2), .int (x3), .int (x4), .int (x5)] [.int (y3), .int (y2), .int (y1), .ref (y0)] h := by
  refine tf_LW_go ?_
  show 2 ≤ 4 ∧ 2 ≤ 8 ∧ C 2 [.int (y2), .int (y3)] h (fun r g => lx_X9_wide nc C Q 129 [.ref (270), .int (x1), .int (x2), .int (x3), .int (x4), .int (x5)] (r :: [.int (y1), .ref (y0)]) g)
  try simp only [Ny0_0]
  exact ⟨Nat.le_of_ble_eq_true rfl, Nat.le_of_ble_eq_true rfl, q⟩
set_option maxRecDepth 100000 in
theorem go_X9_wide_129 {nc : Nat} {C : tf_C} {Q : tf_Q} {h : LH} (hn : 297 ≤ nc) {x1 : Int32} {x2 : Int32} {x3 : Int32} {x4 : Int32} {x5 : Int32} {y0 ny0 : Nat} {y1 : Int32} {y2 : Int32} (Ky0_0 : tf_K y0 = 8) (Ny0_0 : tf_N y0 = ny0) (By0 : y0 < nc) (q : (vp_in y1 ny0) ∧ (vp_in x5 64) ∧ C 3 [.ref (270), .int (x3), .int (6)] (tf_up h.1 y0 (y1 : Int32).toNatClampNeg y2, h.2) (fun r g => lx_X9_wide nc C Q 150 [.ref (270), .int (x1), .int (x2), .int (x3), .int (x4), .int (x5)] (r :: [.int ((tf_up h.1 y0 (y1 : Int32).toNatClampNeg y2) 287 (x5 : Int32).toNatClampNeg), .int (x5), .ref (287)]) g)) : lx_X9_wide nc C Q 129 [.ref (270), .int (x1), .int (x2), .int (x3), .int (x4), .int (x5)] [.int (y2), .int (y1), .ref (y0)] h := by
  refine tf_LW_go ?_
  show (tf_K y0 = 8 ∧ y0 < nc ∧ vp_in y1 (tf_N y0)) ∧ (tf_K 270 = 7 ∧ 270 < nc) ∧ (tf_K 270 = 7 ∧ 270 < nc) ∧ (tf_K 287 = 8 ∧ 287 < nc ∧ vp_in x5 64) ∧ 3 ≤ 6 ∧ 3 ≤ 8 ∧ C 3 [.ref (270), .int (x3), .int (6)] (tf_up h.1 y0 (y1 : Int32).toNatClampNeg y2, h.2) (fun r g => lx_X9_wide nc C Q 150 [.ref (270), .int (x1), .int (x2), .int (x3), .int (x4), .int (x5)] (r :: [.int ((tf_up h.1 y0 (y1 : Int32).toNatClampNeg y2) 287 (x5 : Int32).toNatClampNeg), .int (x5), .ref (287)]) g)
  try simp only [Ny0_0]
  exact ⟨⟨Ky0_0, (show y0 < nc by omega), q.1⟩, ⟨⟨(by first | rfl | trivial), (show 270 < nc by omega)⟩, ⟨⟨(by first | rfl | trivial), (show 270 < nc by omega)⟩, ⟨⟨(by first | rfl | trivial), (show 287 < nc by omega), q.2.1⟩, ⟨Nat.le_of_ble_eq_true rfl, Nat.le_of_ble_eq_true rfl, q.2.2⟩⟩⟩⟩⟩
set_option maxRecDepth 100000 in
theorem go_X9_wide_150 {nc : Nat} {C : tf_C} {Q : tf_Q} {h : LH} (hn : 297 ≤ nc) {x1 : Int32} {x2 : Int32} {x3 : Int32} {x4 : Int32} {x5 : Int32} {y0 ny0 : Nat} {y1 : Int32} {y2 : Int32} {y3 : Int32} (Ky0_0 : tf_K y0 = 8) (Ny0_0 : tf_N y0 = ny0) (By0 : y0 < nc) (q : (y3 = (1 : Int32) → lx_X9_wide nc C Q 164 [.ref (270), .int (x1), .int (x2), .int (x3), .int (x4), .int (x5)] [.int (0), .int (y2), .int (y1), .ref (y0)] h) ∧ (¬ y3 = (1 : Int32) → lx_X9_wide nc C Q 158 [.ref (270), .int (x1), .int (x2), .int (x3), .int (x4), .int (x5)] [.int (y2), .int (y1), .ref (y0)] h)) : lx_X9_wide nc C Q 150 [.ref (270), .int (x1), .int (x2), .int (x3), .int (x4), .int (x5)] [.int (y3), .int (y2), .int (y1), .ref (y0)] h := by
  refine tf_LW_go ?_
  show (y3 = (1 : Int32) → lx_X9_wide nc C Q 164 [.ref (270), .int (x1), .int (x2), .int (x3), .int (x4), .int (x5)] [.int (0), .int (y2), .int (y1), .ref (y0)] h) ∧ (¬ y3 = (1 : Int32) → lx_X9_wide nc C Q 158 [.ref (270), .int (x1), .int (x2), .int (x3), .int (x4), .int (x5)] [.int (y2), .int (y1), .ref (y0)] h)
  try simp only [Ny0_0]
  exact ⟨fun c1 => (q.1 c1), q.2⟩
set_option maxRecDepth 100000 in
theorem go_X9_wide_158 {nc : Nat} {C : tf_C} {Q : tf_Q} {h : LH} (hn : 297 ≤ nc) {x1 : Int32} {x2 : Int32} {x3 : Int32} {x4 : Int32} {x5 : Int32} {y0 ny0 : Nat} {y1 : Int32} {y2 : Int32} (Ky0_0 : tf_K y0 = 8) (Ny0_0 : tf_N y0 = ny0) (By0 : y0 < nc) (q : C 3 [.ref (270), .int (x3), .int (4)] h (fun r g => lx_X9_wide nc C Q 164 [.ref (270), .int (x1), .int (x2), .int (x3), .int (x4), .int (x5)] (r :: [.int (y2), .int (y1), .ref (y0)]) g)) : lx_X9_wide nc C Q 158 [.ref (270), .int (x1), .int (x2), .int (x3), .int (x4), .int (x5)] [.int (y2), .int (y1), .ref (y0)] h := by
  refine tf_LW_go ?_
  show 3 ≤ 6 ∧ 3 ≤ 8 ∧ C 3 [.ref (270), .int (x3), .int (4)] h (fun r g => lx_X9_wide nc C Q 164 [.ref (270), .int (x1), .int (x2), .int (x3), .int (x4), .int (x5)] (r :: [.int (y2), .int (y1), .ref (y0)]) g)
  try simp only [Ny0_0]
  exact ⟨Nat.le_of_ble_eq_true rfl, Nat.le_of_ble_eq_true rfl, q⟩
set_option maxRecDepth 100000 in
theorem go_X9_wide_164 {nc : Nat} {C : tf_C} {Q : tf_Q} {h : LH} (hn : 297 ≤ nc) {x1 : Int32} {x2 : Int32} {x3 : Int32} {x4 : Int32} {x5 : Int32} {y0 ny0 : Nat} {y1 : Int32} {y2 : Int32} {y3 : Int32} (Ky0_0 : tf_K y0 = 8) (Ny0_0 : tf_N y0 = ny0) (By0 : y0 < nc) (q : C 2 [.int (y2), .int (y3)] h (fun r g => lx_X9_wide nc C Q 167 [.ref (270), .int (x1), .int (x2), .int (x3), .int (x4), .int (x5)] (r :: [.int (y1), .ref (y0)]) g)) : lx_X9_wide nc C Q 164 [.ref (270), .int (x1), .int (x2), .int (x3), .int (x4), .int (x5)] [.int (y3), .int (y2), .int (y1), .ref (y0)] h := by
  refine tf_LW_go ?_
  show 2 ≤ 4 ∧ 2 ≤ 8 ∧ C 2 [.int (y2), .int (y3)] h (fun r g => lx_X9_wide nc C Q 167 [.ref (270), .int (x1), .int (x2), .int (x3), .int (x4), .int (x5)] (r :: [.int (y1), .ref (y0)]) g)
  try simp only [Ny0_0]
  exact ⟨Nat.le_of_ble_eq_true rfl, Nat.le_of_ble_eq_true rfl, q⟩
set_option maxRecDepth 100000 in
theorem go_X9_wide_167 {nc : Nat} {C : tf_C} {Q : tf_Q} {h : LH} (hn : 297 ≤ nc) {x1 : Int32} {x2 : Int32} {x3 : Int32} {x4 : Int32} {x5 : Int32} {y0 ny0 : Nat} {y1 : Int32} {y2 : Int32} (Ky0_0 : tf_K y0 = 8) (Ny0_0 : tf_N y0 = ny0) (By0 : y0 < nc) (q : (vp_in y1 ny0) ∧ lx_X9_wide nc C Q 39 [.ref (270), .int (x1), .int (x2), .int (x3 + 1), .int (x4), .int (x5)] [] (tf_up h.1 y0 (y1 : Int32).toNatClampNeg y2, h.2)) : lx_X9_wide nc C Q 167 [.ref (270), .int (x1), .int (x2), .int (x3), .int (x4), .int (x5)] [.int (y2), .int (y1), .ref (y0)] h := by
  refine tf_LW_go ?_
  show (tf_K y0 = 8 ∧ y0 < nc ∧ vp_in y1 (tf_N y0)) ∧ lx_X9_wide nc C Q 39 [.ref (270), .int (x1), .int (x2), .int (x3 + 1), .int (x4), .int (x5)] [] (tf_up h.1 y0 (y1 : Int32).toNatClampNeg y2, h.2)
  try simp only [Ny0_0]
  exact ⟨⟨Ky0_0, (show y0 < nc by omega), q.1⟩, q.2⟩
set_option maxRecDepth 100000 in
theorem go_X9_wide_174 {nc : Nat} {C : tf_C} {Q : tf_Q} {h : LH} (hn : 297 ≤ nc) {x1 : Int32} {x2 : Int32} {x3 : Int32} {x4 : Value} {x5 : Value} (q : lx_X9_wide nc C Q 176 [.ref (270), .int (x1), .int (x2), .int (0), x4, x5] [] h) : lx_X9_wide nc C Q 174 [.ref (270), .int (x1), .int (x2), .int (x3), x4, x5] [] h := by
  refine tf_LW_go ?_
  exact q
set_option maxRecDepth 100000 in
theorem go_X9_wide_176 {nc : Nat} {C : tf_C} {Q : tf_Q} {h : LH} (hn : 297 ≤ nc) {x1 : Int32} {x2 : Int32} {x3 : Int32} {x4 : Value} {x5 : Value} (q : ((h.1 271 (0 : Int32).toNatClampNeg) ≤ x3 → lx_X9_wide nc C Q 258 [.ref (270), .int (x1), .int (x2), .int (x3), x4, x5] [] h) ∧ (¬ (h.1 271 (0 : Int32).toNatClampNeg) ≤ x3 → lx_X9_wide nc C Q 189 [.ref (270), .int (x1), .int (x2), .int (x3), .int (0), x5] [] h)) : lx_X9_wide nc C Q 176 [.ref (270), .int (x1), .int (x2), .int (x3), x4, x5] [] h := by
  refine tf_LW_go ?_
  exact ⟨⟨(by first | rfl | trivial), (show 270 < nc by omega)⟩, ⟨⟨(by first | rfl | trivial), (show 271 < nc by omega), (vp_in_iff.mpr (by decide))⟩, ⟨q.1, fun c1 => (q.2 c1)⟩⟩⟩
set_option maxRecDepth 100000 in
theorem go_X9_wide_189 {nc : Nat} {C : tf_C} {Q : tf_Q} {h : LH} (hn : 297 ≤ nc) {x1 : Int32} {x2 : Int32} {x3 : Int32} {x4 : Int32} {x5 : Value} (q : ((64 : Int32) ≤ x4 → lx_X9_wide nc C Q 252 [.ref (270), .int (x1), .int (x2), .int (x3), .int (x4), x5] [] h) ∧ (¬ (64 : Int32) ≤ x4 → (vp_in x4 64) ∧ (vp_in (((x4 / 8) * 8) + x3) 64) ∧ (vp_in ((8 * x3) + (x4 - x4 / 8 * 8)) 64) ∧ C 1 [.int (h.1 287 (((x4 / 8) * 8) + x3 : Int32).toNatClampNeg), .int (h.1 287 ((8 * x3) + (x4 - x4 / 8 * 8) : Int32).toNatClampNeg)] h (fun r g => lx_X9_wide nc C Q 242 [.ref (270), .int (x1), .int (x2), .int (x3), .int (x4), x5] (r :: [.int (h.1 287 (x4 : Int32).toNatClampNeg), .int (x4), .ref (287)]) g))) : lx_X9_wide nc C Q 189 [.ref (270), .int (x1), .int (x2), .int (x3), .int (x4), x5] [] h := by
  refine tf_LW_go ?_
  exact ⟨q.1, fun c1 => ⟨⟨(by first | rfl | trivial), (show 270 < nc by omega)⟩, ⟨⟨(by first | rfl | trivial), (show 270 < nc by omega)⟩, ⟨⟨(by first | rfl | trivial), (show 287 < nc by omega), (q.2 c1).1⟩, ⟨⟨(by first | rfl | trivial), (show 270 < nc by omega)⟩, ⟨(by decide), ⟨⟨(by first | rfl | trivial), (show 287 < nc by omega), (q.2 c1).2.1⟩, ⟨⟨(by first | rfl | trivial), (show 270 < nc by omega)⟩, ⟨(by decide), ⟨⟨(by first | rfl | trivial), (show 287 < nc by omega), (q.2 c1).2.2.1⟩, ⟨Nat.le_of_ble_eq_true rfl, Nat.le_of_ble_eq_true rfl, (q.2 c1).2.2.2⟩⟩⟩⟩⟩⟩⟩⟩⟩⟩⟩
set_option maxRecDepth 100000 in
theorem go_X9_wide_242 {nc : Nat} {C : tf_C} {Q : tf_Q} {h : LH} (hn : 297 ≤ nc) {x1 : Int32} {x2 : Int32} {x3 : Int32} {x4 : Int32} {x5 : Value} {y0 ny0 : Nat} {y1 : Int32} {y2 : Int32} {y3 : Int32} (Ky0_0 : tf_K y0 = 8) (Ny0_0 : tf_N y0 = ny0) (By0 : y0 < nc) (q : C 2 [.int (y2), .int (y3)] h (fun r g => lx_X9_wide nc C Q 245 [.ref (270), .int (x1), .int (x2), .int (x3), .int (x4), x5] (r :: [.int (y1), .ref (y0)]) g)) : lx_X9_wide nc C Q 242 [.ref (270), .int (x1), .int (x2), .int (x3), .int (x4), x5] [.int (y3), .int (y2), .int (y1), .ref (y0)] h := by
  refine tf_LW_go ?_
  show 2 ≤ 4 ∧ 2 ≤ 8 ∧ C 2 [.int (y2), .int (y3)] h (fun r g => lx_X9_wide nc C Q 245 [.ref (270), .int (x1), .int (x2), .int (x3), .int (x4), x5] (r :: [.int (y1), .ref (y0)]) g)
  try simp only [Ny0_0]
  exact ⟨Nat.le_of_ble_eq_true rfl, Nat.le_of_ble_eq_true rfl, q⟩
set_option maxRecDepth 100000 in
theorem go_X9_wide_245 {nc : Nat} {C : tf_C} {Q : tf_Q} {h : LH} (hn : 297 ≤ nc) {x1 : Int32} {x2 : Int32} {x3 : Int32} {x4 : Int32} {x5 : Value} {y0 ny0 : Nat} {y1 : Int32} {y2 : Int32} (Ky0_0 : tf_K y0 = 8) (Ny0_0 : tf_N y0 = ny0) (By0 : y0 < nc) (q : (vp_in y1 ny0) ∧ lx_X9_wide nc C Q 189 [.ref (270), .int (x1), .int (x2), .int (x3), .int (x4 + 1), x5] [] (tf_up h.1 y0 (y1 : Int32).toNatClampNeg y2, h.2)) : lx_X9_wide nc C Q 245 [.ref (270), .int (x1), .int (x2), .int (x3), .int (x4), x5] [.int (y2), .int (y1), .ref (y0)] h := by
  refine tf_LW_go ?_
  show (tf_K y0 = 8 ∧ y0 < nc ∧ vp_in y1 (tf_N y0)) ∧ lx_X9_wide nc C Q 189 [.ref (270), .int (x1), .int (x2), .int (x3), .int (x4 + 1), x5] [] (tf_up h.1 y0 (y1 : Int32).toNatClampNeg y2, h.2)
  try simp only [Ny0_0]
  exact ⟨⟨Ky0_0, (show y0 < nc by omega), q.1⟩, q.2⟩
set_option maxRecDepth 100000 in
theorem go_X9_wide_252 {nc : Nat} {C : tf_C} {Q : tf_Q} {h : LH} (hn : 297 ≤ nc) {x1 : Int32} {x2 : Int32} {x3 : Int32} {x4 : Int32} {x5 : Value} (q : lx_X9_wide nc C Q 176 [.ref (270), .int (x1), .int (x2), .int (x3 + 1), .int (x4), x5] [] h) : lx_X9_wide nc C Q 252 [.ref (270), .int (x1), .int (x2), .int (x3), .int (x4), x5] [] h := by
  refine tf_LW_go ?_
  exact q
set_option maxRecDepth 100000 in
theorem go_X9_wide_258 {nc : Nat} {C : tf_C} {Q : tf_Q} {h : LH} (hn : 297 ≤ nc) {x1 : Int32} {x2 : Int32} {x3 : Int32} {x4 : Value} {x5 : Value} (q : (vp_in ((8 * x1) + x2) 64) ∧ Q (.int (h.1 287 ((8 * x1) + x2 : Int32).toNatClampNeg)) h) : lx_X9_wide nc C Q 258 [.ref (270), .int (x1), .int (x2), .int (x3), x4, x5] [] h := by
  refine tf_LW_go ?_
  exact ⟨⟨(by first | rfl | trivial), (show 270 < nc by omega)⟩, ⟨⟨(by first | rfl | trivial), (show 287 < nc by omega), q.1⟩, ⟨(by first | trivial | rfl), q.2⟩⟩⟩
abbrev lx_X9_outOf (nc : Nat) (C : tf_C) (Q : tf_Q) : tf_X := tf_LW nc C (tf_F 7) (tf_M 7) (tf_I 7) (tf_Eh 87) 1 tb_X9_outOf Q
set_option maxRecDepth 100000 in
theorem go_X9_outOf_0 {nc : Nat} {C : tf_C} {Q : tf_Q} {h : LH} (hn : 297 ≤ nc) {x1 : Int32} (q : lx_X9_outOf nc C Q 2 [.ref (270), .int (x1), .int (0)] [] h) : lx_X9_outOf nc C Q 0 [.ref (270), .int (x1), tf_z] [] h := by
  refine tf_LW_go ?_
  exact q
theorem en_X9_outOf {nc d : Nat} {Q : tf_Q} {h : LH} (hn : 297 ≤ nc) {x1 : Int32} (q : lx_X9_outOf nc (tf_Cd nc d) Q 0 [.ref (270), .int (x1), tf_z] [] h) : tf_Cd nc (d + 1) 87 [.ref (270), .int (x1)] h Q := by
  exact ⟨⟨Nat.le_of_ble_eq_true rfl, Or.inr ⟨rfl, (show 270 < nc by omega)⟩⟩, q⟩
set_option maxRecDepth 100000 in
theorem go_X9_outOf_2 {nc : Nat} {C : tf_C} {Q : tf_Q} {h : LH} (hn : 297 ≤ nc) {x1 : Int32} {x2 : Int32} (q : ((h.1 271 (1 : Int32).toNatClampNeg) ≤ x2 → lx_X9_outOf nc C Q 39 [.ref (270), .int (x1), .int (x2)] [] h) ∧ (¬ (h.1 271 (1 : Int32).toNatClampNeg) ≤ x2 → C 3 [.ref (270), .int (x2), .int (0)] h (fun r g => lx_X9_outOf nc C Q 18 [.ref (270), .int (x1), .int (x2)] (r :: []) g))) : lx_X9_outOf nc C Q 2 [.ref (270), .int (x1), .int (x2)] [] h := by
  refine tf_LW_go ?_
  exact ⟨⟨(by first | rfl | trivial), (show 270 < nc by omega)⟩, ⟨⟨(by first | rfl | trivial), (show 271 < nc by omega), (vp_in_iff.mpr (by decide))⟩, ⟨q.1, fun c1 => ⟨Nat.le_of_ble_eq_true rfl, Nat.le_of_ble_eq_true rfl, (q.2 c1)⟩⟩⟩⟩
set_option maxRecDepth 100000 in
theorem go_X9_outOf_18 {nc : Nat} {C : tf_C} {Q : tf_Q} {h : LH} (hn : 297 ≤ nc) {x1 : Int32} {x2 : Int32} {y0 : Int32} (q : (y0 = x1 → (vp_in x2 14) ∧ ((h.1 288 (x2 : Int32).toNatClampNeg) ≤ (0 : Int32) → lx_X9_outOf nc C Q 33 [.ref (270), .int (x1), .int (x2)] [] h) ∧ (¬ (h.1 288 (x2 : Int32).toNatClampNeg) ≤ (0 : Int32) → Q (.int (x2)) h)) ∧ (¬ y0 = x1 → lx_X9_outOf nc C Q 33 [.ref (270), .int (x1), .int (x2)] [] h)) : lx_X9_outOf nc C Q 18 [.ref (270), .int (x1), .int (x2)] [.int (y0)] h := by
  refine tf_LW_go ?_
  exact ⟨fun c2 => ⟨⟨(by first | rfl | trivial), (show 270 < nc by omega)⟩, ⟨⟨(by first | rfl | trivial), (show 288 < nc by omega), (q.1 c2).1⟩, ⟨(q.1 c2).2.1, fun c1 => ⟨(by first | trivial | rfl), ((q.1 c2).2.2 c1)⟩⟩⟩⟩, q.2⟩
set_option maxRecDepth 100000 in
theorem go_X9_outOf_33 {nc : Nat} {C : tf_C} {Q : tf_Q} {h : LH} (hn : 297 ≤ nc) {x1 : Int32} {x2 : Int32} (q : lx_X9_outOf nc C Q 2 [.ref (270), .int (x1), .int (x2 + 1)] [] h) : lx_X9_outOf nc C Q 33 [.ref (270), .int (x1), .int (x2)] [] h := by
  refine tf_LW_go ?_
  exact q
set_option maxRecDepth 100000 in
theorem go_X9_outOf_39 {nc : Nat} {C : tf_C} {Q : tf_Q} {h : LH} (hn : 297 ≤ nc) {x1 : Int32} {x2 : Int32} (q : Q (.int ((-1))) h) : lx_X9_outOf nc C Q 39 [.ref (270), .int (x1), .int (x2)] [] h := by
  refine tf_LW_go ?_
  exact ⟨(by first | trivial | rfl), q⟩
abbrev lx_X9_startOf (nc : Nat) (C : tf_C) (Q : tf_Q) : tf_X := tf_LW nc C (tf_F 7) (tf_M 7) (tf_I 7) (tf_Eh 88) 1 tb_X9_startOf Q
set_option maxRecDepth 100000 in
theorem go_X9_startOf_0 {nc : Nat} {C : tf_C} {Q : tf_Q} {h : LH} (hn : 297 ≤ nc) (q : lx_X9_startOf nc C Q 4 [.ref (270), .int ((-1)), .int (0), tf_z, tf_z] [] h) : lx_X9_startOf nc C Q 0 [.ref (270), tf_z, tf_z, tf_z, tf_z] [] h := by
  refine tf_LW_go ?_
  exact q
theorem en_X9_startOf {nc d : Nat} {Q : tf_Q} {h : LH} (hn : 297 ≤ nc) (q : lx_X9_startOf nc (tf_Cd nc d) Q 0 [.ref (270), tf_z, tf_z, tf_z, tf_z] [] h) : tf_Cd nc (d + 1) 88 [.ref (270)] h Q := by
  exact ⟨⟨Nat.le_of_ble_eq_true rfl, Or.inr ⟨rfl, (show 270 < nc by omega)⟩⟩, q⟩
set_option maxRecDepth 100000 in
theorem go_X9_startOf_4 {nc : Nat} {C : tf_C} {Q : tf_Q} {h : LH} (hn : 297 ≤ nc) {x1 : Int32} {x2 : Int32} {x3 : Value} {x4 : Value} (q : ((h.1 271 (0 : Int32).toNatClampNeg) ≤ x2 → lx_X9_startOf nc C Q 115 [.ref (270), .int (x1), .int (x2), x3, x4] [] h) ∧ (¬ (h.1 271 (0 : Int32).toNatClampNeg) ≤ x2 → lx_X9_startOf nc C Q 19 [.ref (270), .int (x1), .int (x2), .int (0), .int (0)] [] h)) : lx_X9_startOf nc C Q 4 [.ref (270), .int (x1), .int (x2), x3, x4] [] h := by
  refine tf_LW_go ?_
  exact ⟨⟨(by first | rfl | trivial), (show 270 < nc by omega)⟩, ⟨⟨(by first | rfl | trivial), (show 271 < nc by omega), (vp_in_iff.mpr (by decide))⟩, ⟨q.1, fun c1 => (q.2 c1)⟩⟩⟩
set_option maxRecDepth 100000 in
theorem go_X9_startOf_19 {nc : Nat} {C : tf_C} {Q : tf_Q} {h : LH} (hn : 297 ≤ nc) {x1 : Int32} {x2 : Int32} {x3 : Int32} {x4 : Int32} (q : ((h.1 271 (1 : Int32).toNatClampNeg) ≤ x4 → lx_X9_startOf nc C Q 83 [.ref (270), .int (x1), .int (x2), .int (x3), .int (x4)] [] h) ∧ (¬ (h.1 271 (1 : Int32).toNatClampNeg) ≤ x4 → C 3 [.ref (270), .int (x4), .int (0)] h (fun r g => lx_X9_startOf nc C Q 38 [.ref (270), .int (x1), .int (x2), .int (x3), .int (x4)] (r :: [.int (x3)]) g))) : lx_X9_startOf nc C Q 19 [.ref (270), .int (x1), .int (x2), .int (x3), .int (x4)] [] h := by
  refine tf_LW_go ?_
  exact ⟨⟨(by first | rfl | trivial), (show 270 < nc by omega)⟩, ⟨⟨(by first | rfl | trivial), (show 271 < nc by omega), (vp_in_iff.mpr (by decide))⟩, ⟨q.1, fun c1 => ⟨Nat.le_of_ble_eq_true rfl, Nat.le_of_ble_eq_true rfl, (q.2 c1)⟩⟩⟩⟩
set_option maxRecDepth 100000 in
theorem go_X9_startOf_38 {nc : Nat} {C : tf_C} {Q : tf_Q} {h : LH} (hn : 297 ≤ nc) {x1 : Int32} {x2 : Int32} {x3 : Int32} {x4 : Int32} {y0 : Int32} {y1 : Int32} (q : (y1 = x2 → (vp_in x4 14) ∧ lx_X9_startOf nc C Q 75 [.ref (270), .int (x1), .int (x2), .int (x3), .int (x4)] [.int (h.1 288 (x4 : Int32).toNatClampNeg), .int (y0)] h) ∧ (¬ y1 = x2 → lx_X9_startOf nc C Q 52 [.ref (270), .int (x1), .int (x2), .int (x3), .int (x4)] [.int (y0)] h)) : lx_X9_startOf nc C Q 38 [.ref (270), .int (x1), .int (x2), .int (x3), .int (x4)] [.int (y1), .int (y0)] h := by
  refine tf_LW_go ?_
  exact ⟨fun c1 => ⟨⟨(by first | rfl | trivial), (show 270 < nc by omega)⟩, ⟨⟨(by first | rfl | trivial), (show 288 < nc by omega), (q.1 c1).1⟩, (q.1 c1).2⟩⟩, q.2⟩
set_option maxRecDepth 100000 in
theorem go_X9_startOf_52 {nc : Nat} {C : tf_C} {Q : tf_Q} {h : LH} (hn : 297 ≤ nc) {x1 : Int32} {x2 : Int32} {x3 : Int32} {x4 : Int32} {y0 : Int32} (q : C 3 [.ref (270), .int (x4), .int (1)] h (fun r g => lx_X9_startOf nc C Q 59 [.ref (270), .int (x1), .int (x2), .int (x3), .int (x4)] (r :: [.int (y0)]) g)) : lx_X9_startOf nc C Q 52 [.ref (270), .int (x1), .int (x2), .int (x3), .int (x4)] [.int (y0)] h := by
  refine tf_LW_go ?_
  exact ⟨Nat.le_of_ble_eq_true rfl, Nat.le_of_ble_eq_true rfl, q⟩
set_option maxRecDepth 100000 in
theorem go_X9_startOf_59 {nc : Nat} {C : tf_C} {Q : tf_Q} {h : LH} (hn : 297 ≤ nc) {x1 : Int32} {x2 : Int32} {x3 : Int32} {x4 : Int32} {y0 : Int32} {y1 : Int32} (q : (y1 = x2 → (vp_in x4 14) ∧ lx_X9_startOf nc C Q 75 [.ref (270), .int (x1), .int (x2), .int (x3), .int (x4)] [.int (-(h.1 288 (x4 : Int32).toNatClampNeg)), .int (y0)] h) ∧ (¬ y1 = x2 → lx_X9_startOf nc C Q 74 [.ref (270), .int (x1), .int (x2), .int (x3), .int (x4)] [.int (y0)] h)) : lx_X9_startOf nc C Q 59 [.ref (270), .int (x1), .int (x2), .int (x3), .int (x4)] [.int (y1), .int (y0)] h := by
  refine tf_LW_go ?_
  exact ⟨fun c1 => ⟨⟨(by first | rfl | trivial), (show 270 < nc by omega)⟩, ⟨⟨(by first | rfl | trivial), (show 288 < nc by omega), (q.1 c1).1⟩, (q.1 c1).2⟩⟩, q.2⟩
set_option maxRecDepth 100000 in
theorem go_X9_startOf_74 {nc : Nat} {C : tf_C} {Q : tf_Q} {h : LH} (hn : 297 ≤ nc) {x1 : Int32} {x2 : Int32} {x3 : Int32} {x4 : Int32} {y0 : Int32} (q : lx_X9_startOf nc C Q 75 [.ref (270), .int (x1), .int (x2), .int (x3), .int (x4)] [.int (0), .int (y0)] h) : lx_X9_startOf nc C Q 74 [.ref (270), .int (x1), .int (x2), .int (x3), .int (x4)] [.int (y0)] h := by
  refine tf_LW_go ?_
  exact q
set_option maxRecDepth 100000 in
theorem go_X9_startOf_75 {nc : Nat} {C : tf_C} {Q : tf_Q} {h : LH} (hn : 297 ≤ nc) {x1 : Int32} {x2 : Int32} {x3 : Int32} {x4 : Int32} {y0 : Int32} {y1 : Int32} (q : lx_X9_startOf nc C Q 19 [.ref (270), .int (x1), .int (x2), .int (y0 + y1), .int (x4 + 1)] [] h) : lx_X9_startOf nc C Q 75 [.ref (270), .int (x1), .int (x2), .int (x3), .int (x4)] [.int (y1), .int (y0)] h := by
  refine tf_LW_go ?_
  exact q
set_option maxRecDepth 100000 in
theorem go_X9_startOf_83 {nc : Nat} {C : tf_C} {Q : tf_Q} {h : LH} (hn : 297 ≤ nc) {x1 : Int32} {x2 : Int32} {x3 : Int32} {x4 : Int32} (q : (x3 ≤ (0 : Int32) → lx_X9_startOf nc C Q 89 [.ref (270), .int (x1), .int (x2), .int (x3), .int (x4)] [] h) ∧ (¬ x3 ≤ (0 : Int32) → Q (.int (x2)) h)) : lx_X9_startOf nc C Q 83 [.ref (270), .int (x1), .int (x2), .int (x3), .int (x4)] [] h := by
  refine tf_LW_go ?_
  exact ⟨q.1, fun c1 => ⟨(by first | trivial | rfl), (q.2 c1)⟩⟩
set_option maxRecDepth 100000 in
theorem go_X9_startOf_89 {nc : Nat} {C : tf_C} {Q : tf_Q} {h : LH} (hn : 297 ≤ nc) {x1 : Int32} {x2 : Int32} {x3 : Int32} {x4 : Int32} (q : (x1 = ((-1) : Int32) → C 87 [.ref (270), .int (x2)] h (fun r g => lx_X9_startOf nc C Q 99 [.ref (270), .int (x1), .int (x2), .int (x3), .int (x4)] (r :: []) g)) ∧ (¬ x1 = ((-1) : Int32) → lx_X9_startOf nc C Q 107 [.ref (270), .int (x1), .int (x2), .int (x3), .int (x4)] [] h)) : lx_X9_startOf nc C Q 89 [.ref (270), .int (x1), .int (x2), .int (x3), .int (x4)] [] h := by
  refine tf_LW_go ?_
  exact ⟨fun c1 => ⟨Nat.le_of_ble_eq_true rfl, Nat.le_of_ble_eq_true rfl, (q.1 c1)⟩, q.2⟩
set_option maxRecDepth 100000 in
theorem go_X9_startOf_99 {nc : Nat} {C : tf_C} {Q : tf_Q} {h : LH} (hn : 297 ≤ nc) {x1 : Int32} {x2 : Int32} {x3 : Int32} {x4 : Int32} {y0 : Int32} (q : (y0 = ((-1) : Int32) → lx_X9_startOf nc C Q 107 [.ref (270), .int (x1), .int (x2), .int (x3), .int (x4)] [] h) ∧ (¬ y0 = ((-1) : Int32) → lx_X9_startOf nc C Q 108 [.ref (270), .int (x1), .int (x2), .int (x3), .int (x4)] [.int (x2)] h)) : lx_X9_startOf nc C Q 99 [.ref (270), .int (x1), .int (x2), .int (x3), .int (x4)] [.int (y0)] h := by
  refine tf_LW_go ?_
  exact ⟨q.1, fun c1 => (q.2 c1)⟩
set_option maxRecDepth 100000 in
theorem go_X9_startOf_107 {nc : Nat} {C : tf_C} {Q : tf_Q} {h : LH} (hn : 297 ≤ nc) {x1 : Int32} {x2 : Int32} {x3 : Int32} {x4 : Int32} (q : lx_X9_startOf nc C Q 108 [.ref (270), .int (x1), .int (x2), .int (x3), .int (x4)] [.int (x1)] h) : lx_X9_startOf nc C Q 107 [.ref (270), .int (x1), .int (x2), .int (x3), .int (x4)] [] h := by
  refine tf_LW_go ?_
  exact q
set_option maxRecDepth 100000 in
theorem go_X9_startOf_108 {nc : Nat} {C : tf_C} {Q : tf_Q} {h : LH} (hn : 297 ≤ nc) {x1 : Int32} {x2 : Int32} {x3 : Int32} {x4 : Int32} {y0 : Int32} (q : lx_X9_startOf nc C Q 4 [.ref (270), .int (y0), .int (x2 + 1), .int (x3), .int (x4)] [] h) : lx_X9_startOf nc C Q 108 [.ref (270), .int (x1), .int (x2), .int (x3), .int (x4)] [.int (y0)] h := by
  refine tf_LW_go ?_
  exact q
set_option maxRecDepth 100000 in
theorem go_X9_startOf_115 {nc : Nat} {C : tf_C} {Q : tf_Q} {h : LH} (hn : 297 ≤ nc) {x1 : Int32} {x2 : Int32} {x3 : Value} {x4 : Value} (q : Q (.int (x1)) h) : lx_X9_startOf nc C Q 115 [.ref (270), .int (x1), .int (x2), x3, x4] [] h := by
  refine tf_LW_go ?_
  exact ⟨(by first | trivial | rfl), q⟩
abbrev lx_X9_stopAt (nc : Nat) (C : tf_C) (Q : tf_Q) : tf_X := tf_LW nc C (tf_F 7) (tf_M 7) (tf_I 7) (tf_Eh 89) 1 tb_X9_stopAt Q
set_option maxRecDepth 100000 in
theorem go_X9_stopAt_0 {nc : Nat} {C : tf_C} {Q : tf_Q} {h : LH} (hn : 297 ≤ nc) {x1 : Int32} {x2 : Int32} (q : lx_X9_stopAt nc C Q 2 [.ref (270), .int (x1), .int (x2), .int (0)] [] h) : lx_X9_stopAt nc C Q 0 [.ref (270), .int (x1), .int (x2), tf_z] [] h := by
  refine tf_LW_go ?_
  exact q
theorem en_X9_stopAt {nc d : Nat} {Q : tf_Q} {h : LH} (hn : 297 ≤ nc) {x1 : Int32} {x2 : Int32} (q : lx_X9_stopAt nc (tf_Cd nc d) Q 0 [.ref (270), .int (x1), .int (x2), tf_z] [] h) : tf_Cd nc (d + 1) 89 [.ref (270), .int (x1), .int (x2)] h Q := by
  exact ⟨⟨Nat.le_of_ble_eq_true rfl, Or.inr ⟨rfl, (show 270 < nc by omega)⟩⟩, q⟩
set_option maxRecDepth 100000 in
theorem go_X9_stopAt_2 {nc : Nat} {C : tf_C} {Q : tf_Q} {h : LH} (hn : 297 ≤ nc) {x1 : Int32} {x2 : Int32} {x3 : Int32} (q : (x2 ≤ x3 → lx_X9_stopAt nc C Q 25 [.ref (270), .int (x1), .int (x2), .int (x3)] [] h) ∧ (¬ x2 ≤ x3 → (vp_in x3 9) ∧ ((h.1 290 (x3 : Int32).toNatClampNeg) = x1 → Q (.int (x3)) h) ∧ (¬ (h.1 290 (x3 : Int32).toNatClampNeg) = x1 → lx_X9_stopAt nc C Q 19 [.ref (270), .int (x1), .int (x2), .int (x3)] [] h))) : lx_X9_stopAt nc C Q 2 [.ref (270), .int (x1), .int (x2), .int (x3)] [] h := by
  refine tf_LW_go ?_
  exact ⟨q.1, fun c2 => ⟨⟨(by first | rfl | trivial), (show 270 < nc by omega)⟩, ⟨⟨(by first | rfl | trivial), (show 290 < nc by omega), (q.2 c2).1⟩, ⟨fun c1 => ⟨(by first | trivial | rfl), ((q.2 c2).2.1 c1)⟩, (q.2 c2).2.2⟩⟩⟩⟩
set_option maxRecDepth 100000 in
theorem go_X9_stopAt_19 {nc : Nat} {C : tf_C} {Q : tf_Q} {h : LH} (hn : 297 ≤ nc) {x1 : Int32} {x2 : Int32} {x3 : Int32} (q : lx_X9_stopAt nc C Q 2 [.ref (270), .int (x1), .int (x2), .int (x3 + 1)] [] h) : lx_X9_stopAt nc C Q 19 [.ref (270), .int (x1), .int (x2), .int (x3)] [] h := by
  refine tf_LW_go ?_
  exact q
set_option maxRecDepth 100000 in
theorem go_X9_stopAt_25 {nc : Nat} {C : tf_C} {Q : tf_Q} {h : LH} (hn : 297 ≤ nc) {x1 : Int32} {x2 : Int32} {x3 : Int32} (q : Q (.int ((-1))) h) : lx_X9_stopAt nc C Q 25 [.ref (270), .int (x1), .int (x2), .int (x3)] [] h := by
  refine tf_LW_go ?_
  exact ⟨(by first | trivial | rfl), q⟩
abbrev lx_X9_goesTrip (nc : Nat) (C : tf_C) (Q : tf_Q) : tf_X := tf_LW nc C (tf_F 7) (tf_M 7) (tf_I 7) (tf_Eh 90) 2 tb_X9_goesTrip Q
set_option maxRecDepth 100000 in
theorem go_X9_goesTrip_0 {nc : Nat} {C : tf_C} {Q : tf_Q} {h : LH} (hn : 297 ≤ nc) (q : C 88 [.ref (270)] h (fun r g => lx_X9_goesTrip nc C Q 4 [.ref (270), tf_z, tf_z, tf_z, tf_z, tf_z, tf_z] (r :: []) g)) : lx_X9_goesTrip nc C Q 0 [.ref (270), tf_z, tf_z, tf_z, tf_z, tf_z, tf_z] [] h := by
  refine tf_LW_go ?_
  exact ⟨Nat.le_of_ble_eq_true rfl, Nat.le_of_ble_eq_true rfl, q⟩
theorem en_X9_goesTrip {nc d : Nat} {Q : tf_Q} {h : LH} (hn : 297 ≤ nc) (q : lx_X9_goesTrip nc (tf_Cd nc d) Q 0 [.ref (270), tf_z, tf_z, tf_z, tf_z, tf_z, tf_z] [] h) : tf_Cd nc (d + 1) 90 [.ref (270)] h Q := by
  exact ⟨⟨Nat.le_of_ble_eq_true rfl, Or.inr ⟨rfl, (show 270 < nc by omega)⟩⟩, q⟩
set_option maxRecDepth 100000 in
theorem go_X9_goesTrip_4 {nc : Nat} {C : tf_C} {Q : tf_Q} {h : LH} (hn : 297 ≤ nc) {y0 : Int32} (q : (y0 = ((-1) : Int32) → Q (.int (0)) h) ∧ (¬ y0 = ((-1) : Int32) → lx_X9_goesTrip nc C Q 12 [.ref (270), .int (y0), tf_z, tf_z, tf_z, tf_z, tf_z] [] h)) : lx_X9_goesTrip nc C Q 4 [.ref (270), tf_z, tf_z, tf_z, tf_z, tf_z, tf_z] [.int (y0)] h := by
  refine tf_LW_go ?_
  exact ⟨fun c1 => ⟨(by first | rfl | trivial), (q.1 c1)⟩, q.2⟩
set_option maxRecDepth 100000 in
theorem go_X9_goesTrip_12 {nc : Nat} {C : tf_C} {Q : tf_Q} {h : LH} (hn : 297 ≤ nc) {x1 : Int32} (q : lx_X9_goesTrip nc C Q 26 [.ref (270), .int (x1), .int (0), .int (0), .int (1), tf_z, tf_z] [] (tf_up h.1 290 (0 : Int32).toNatClampNeg x1, h.2)) : lx_X9_goesTrip nc C Q 12 [.ref (270), .int (x1), tf_z, tf_z, tf_z, tf_z, tf_z] [] h := by
  refine tf_LW_go ?_
  exact ⟨⟨(by first | rfl | trivial), (show 270 < nc by omega)⟩, ⟨⟨(by first | rfl | trivial), (show 290 < nc by omega), (vp_in_iff.mpr (by decide))⟩, q⟩⟩
set_option maxRecDepth 100000 in
theorem go_X9_goesTrip_26 {nc : Nat} {C : tf_C} {Q : tf_Q} {h : LH} (hn : 297 ≤ nc) {x1 : Int32} {x2 : Int32} {x3 : Int32} {x4 : Int32} {x5 : Value} {x6 : Value} (q : (x4 = (0 : Int32) → lx_X9_goesTrip nc C Q 110 [.ref (270), .int (x1), .int (x2), .int (x3), .int (x4), x5, x6] [] h) ∧ (¬ x4 = (0 : Int32) → C 87 [.ref (270), .int (x1)] h (fun r g => lx_X9_goesTrip nc C Q 36 [.ref (270), .int (x1), .int (x2), .int (x3), .int (x4), x5, x6] (r :: []) g))) : lx_X9_goesTrip nc C Q 26 [.ref (270), .int (x1), .int (x2), .int (x3), .int (x4), x5, x6] [] h := by
  refine tf_LW_go ?_
  exact ⟨q.1, fun c1 => ⟨Nat.le_of_ble_eq_true rfl, Nat.le_of_ble_eq_true rfl, (q.2 c1)⟩⟩
set_option maxRecDepth 100000 in
theorem go_X9_goesTrip_36 {nc : Nat} {C : tf_C} {Q : tf_Q} {h : LH} (hn : 297 ≤ nc) {x1 : Int32} {x2 : Int32} {x3 : Int32} {x4 : Int32} {x5 : Value} {x6 : Value} {y0 : Int32} (q : (vp_in x2 8) ∧ C 3 [.ref (270), .int (y0), .int (1)] (tf_up h.1 289 (x2 : Int32).toNatClampNeg y0, h.2) (fun r g => lx_X9_goesTrip nc C Q 56 [.ref (270), .int (x1), .int (x2 + 1), .int (x3), .int (x4), .int (y0), x6] (r :: []) g)) : lx_X9_goesTrip nc C Q 36 [.ref (270), .int (x1), .int (x2), .int (x3), .int (x4), x5, x6] [.int (y0)] h := by
  refine tf_LW_go ?_
  exact ⟨⟨(by first | rfl | trivial), (show 270 < nc by omega)⟩, ⟨⟨(by first | rfl | trivial), (show 289 < nc by omega), q.1⟩, ⟨Nat.le_of_ble_eq_true rfl, Nat.le_of_ble_eq_true rfl, q.2⟩⟩⟩
set_option maxRecDepth 100000 in
theorem go_X9_goesTrip_56 {nc : Nat} {C : tf_C} {Q : tf_Q} {h : LH} (hn : 297 ≤ nc) {x1 : Int32} {x2 : Int32} {x3 : Int32} {x4 : Int32} {x5 : Int32} {x6 : Value} {y0 : Int32} (q : C 89 [.ref (270), .int (y0), .int (x2)] h (fun r g => lx_X9_goesTrip nc C Q 63 [.ref (270), .int (y0), .int (x2), .int (x3), .int (x4), .int (x5), x6] (r :: []) g)) : lx_X9_goesTrip nc C Q 56 [.ref (270), .int (x1), .int (x2), .int (x3), .int (x4), .int (x5), x6] [.int (y0)] h := by
  refine tf_LW_go ?_
  exact ⟨Nat.le_of_ble_eq_true rfl, Nat.le_of_ble_eq_true rfl, q⟩
set_option maxRecDepth 100000 in
theorem go_X9_goesTrip_63 {nc : Nat} {C : tf_C} {Q : tf_Q} {h : LH} (hn : 297 ≤ nc) {x1 : Int32} {x2 : Int32} {x3 : Int32} {x4 : Int32} {x5 : Int32} {x6 : Value} {y0 : Int32} (q : (y0 = ((-1) : Int32) → lx_X9_goesTrip nc C Q 77 [.ref (270), .int (x1), .int (x2), .int (x3), .int (x4), .int (x5), .int (y0)] [.int (0)] h) ∧ (¬ y0 = ((-1) : Int32) → lx_X9_goesTrip nc C Q 75 [.ref (270), .int (x1), .int (x2), .int (x3), .int (x4), .int (x5), .int (y0)] [] h)) : lx_X9_goesTrip nc C Q 63 [.ref (270), .int (x1), .int (x2), .int (x3), .int (x4), .int (x5), x6] [.int (y0)] h := by
  refine tf_LW_go ?_
  exact ⟨fun c1 => (q.1 c1), q.2⟩
set_option maxRecDepth 100000 in
theorem go_X9_goesTrip_75 {nc : Nat} {C : tf_C} {Q : tf_Q} {h : LH} (hn : 297 ≤ nc) {x1 : Int32} {x2 : Int32} {x3 : Int32} {x4 : Int32} {x5 : Int32} {x6 : Int32} (q : lx_X9_goesTrip nc C Q 77 [.ref (270), .int (x1), .int (x2), .int (x3), .int (x4), .int (x5), .int (x6)] [.int (x6)] h) : lx_X9_goesTrip nc C Q 75 [.ref (270), .int (x1), .int (x2), .int (x3), .int (x4), .int (x5), .int (x6)] [] h := by
  refine tf_LW_go ?_
  exact q
set_option maxRecDepth 100000 in
theorem go_X9_goesTrip_77 {nc : Nat} {C : tf_C} {Q : tf_Q} {h : LH} (hn : 297 ≤ nc) {x1 : Int32} {x2 : Int32} {x3 : Int32} {x4 : Int32} {x5 : Int32} {x6 : Int32} {y0 : Int32} (q : (vp_in x2 9) ∧ (x6 = ((-1) : Int32) → C 87 [.ref (270), .int (x1)] (tf_up h.1 290 (x2 : Int32).toNatClampNeg x1, h.2) (fun r g => lx_X9_goesTrip nc C Q 96 [.ref (270), .int (x1), .int (x2), .int (y0), .int (x4), .int (x5), .int (x6)] (r :: []) g)) ∧ (¬ x6 = ((-1) : Int32) → lx_X9_goesTrip nc C Q 104 [.ref (270), .int (x1), .int (x2), .int (y0), .int (x4), .int (x5), .int (x6)] [] (tf_up h.1 290 (x2 : Int32).toNatClampNeg x1, h.2))) : lx_X9_goesTrip nc C Q 77 [.ref (270), .int (x1), .int (x2), .int (x3), .int (x4), .int (x5), .int (x6)] [.int (y0)] h := by
  refine tf_LW_go ?_
  exact ⟨⟨(by first | rfl | trivial), (show 270 < nc by omega)⟩, ⟨⟨(by first | rfl | trivial), (show 290 < nc by omega), q.1⟩, ⟨fun c1 => ⟨Nat.le_of_ble_eq_true rfl, Nat.le_of_ble_eq_true rfl, (q.2.1 c1)⟩, q.2.2⟩⟩⟩
set_option maxRecDepth 100000 in
theorem go_X9_goesTrip_96 {nc : Nat} {C : tf_C} {Q : tf_Q} {h : LH} (hn : 297 ≤ nc) {x1 : Int32} {x2 : Int32} {x3 : Int32} {x4 : Int32} {x5 : Int32} {x6 : Int32} {y0 : Int32} (q : (y0 = ((-1) : Int32) → lx_X9_goesTrip nc C Q 104 [.ref (270), .int (x1), .int (x2), .int (x3), .int (x4), .int (x5), .int (x6)] [] h) ∧ (¬ y0 = ((-1) : Int32) → lx_X9_goesTrip nc C Q 105 [.ref (270), .int (x1), .int (x2), .int (x3), .int (x4), .int (x5), .int (x6)] [.int (1)] h)) : lx_X9_goesTrip nc C Q 96 [.ref (270), .int (x1), .int (x2), .int (x3), .int (x4), .int (x5), .int (x6)] [.int (y0)] h := by
  refine tf_LW_go ?_
  exact ⟨q.1, fun c1 => (q.2 c1)⟩
set_option maxRecDepth 100000 in
theorem go_X9_goesTrip_104 {nc : Nat} {C : tf_C} {Q : tf_Q} {h : LH} (hn : 297 ≤ nc) {x1 : Int32} {x2 : Int32} {x3 : Int32} {x4 : Int32} {x5 : Int32} {x6 : Int32} (q : lx_X9_goesTrip nc C Q 105 [.ref (270), .int (x1), .int (x2), .int (x3), .int (x4), .int (x5), .int (x6)] [.int (0)] h) : lx_X9_goesTrip nc C Q 104 [.ref (270), .int (x1), .int (x2), .int (x3), .int (x4), .int (x5), .int (x6)] [] h := by
  refine tf_LW_go ?_
  exact q
set_option maxRecDepth 100000 in
theorem go_X9_goesTrip_105 {nc : Nat} {C : tf_C} {Q : tf_Q} {h : LH} (hn : 297 ≤ nc) {x1 : Int32} {x2 : Int32} {x3 : Int32} {x4 : Int32} {x5 : Int32} {x6 : Int32} {y0 : Int32} (q : lx_X9_goesTrip nc C Q 26 [.ref (270), .int (x1), .int (x2), .int (x3), .int (y0), .int (x5), .int (x6)] [] h) : lx_X9_goesTrip nc C Q 105 [.ref (270), .int (x1), .int (x2), .int (x3), .int (x4), .int (x5), .int (x6)] [.int (y0)] h := by
  refine tf_LW_go ?_
  exact q
set_option maxRecDepth 100000 in
theorem go_X9_goesTrip_110 {nc : Nat} {C : tf_C} {Q : tf_Q} {h : LH} (hn : 297 ≤ nc) {x1 : Int32} {x2 : Int32} {x3 : Int32} {x4 : Int32} {x5 : Value} {x6 : Value} (q : lx_X9_goesTrip nc C Q 127 [.ref (270), .int (x1), .int (x2), .int (x3), .int (x4), .int (0), x6] [] (tf_up (tf_up h.1 270 36 (x2 - x3)) 270 37 1000000, h.2)) : lx_X9_goesTrip nc C Q 110 [.ref (270), .int (x1), .int (x2), .int (x3), .int (x4), x5, x6] [] h := by
  refine tf_LW_go ?_
  exact ⟨⟨(by first | rfl | trivial), (show 270 < nc by omega), (by first | rfl | trivial)⟩, ⟨⟨(by first | rfl | trivial), (show 270 < nc by omega), (by first | rfl | trivial)⟩, q⟩⟩
set_option maxRecDepth 100000 in
theorem go_X9_goesTrip_127 {nc : Nat} {C : tf_C} {Q : tf_Q} {h : LH} (hn : 297 ≤ nc) {x1 : Int32} {x2 : Int32} {x3 : Int32} {x4 : Int32} {x5 : Int32} {x6 : Value} (q : ((h.1 270 36) ≤ x5 → lx_X9_goesTrip nc C Q 181 [.ref (270), .int (x1), .int (x2), .int (x3), .int (x4), .int (x5), x6] [] h) ∧ (¬ (h.1 270 36) ≤ x5 → (vp_in (x5 + x3) 8) ∧ (vp_in x5 8) ∧ (vp_in x5 8) ∧ (vp_in ((tf_up h.1 289 (x5 : Int32).toNatClampNeg (h.1 289 (x5 + x3 : Int32).toNatClampNeg)) 289 (x5 : Int32).toNatClampNeg) 14) ∧ C 1 [.int ((tf_up h.1 289 (x5 : Int32).toNatClampNeg (h.1 289 (x5 + x3 : Int32).toNatClampNeg)) 270 37), .int ((tf_up h.1 289 (x5 : Int32).toNatClampNeg (h.1 289 (x5 + x3 : Int32).toNatClampNeg)) 288 ((tf_up h.1 289 (x5 : Int32).toNatClampNeg (h.1 289 (x5 + x3 : Int32).toNatClampNeg)) 289 (x5 : Int32).toNatClampNeg : Int32).toNatClampNeg)] (tf_up h.1 289 (x5 : Int32).toNatClampNeg (h.1 289 (x5 + x3 : Int32).toNatClampNeg), h.2) (fun r g => lx_X9_goesTrip nc C Q 172 [.ref (270), .int (x1), .int (x2), .int (x3), .int (x4), .int (x5), x6] (r :: [.ref (270)]) g))) : lx_X9_goesTrip nc C Q 127 [.ref (270), .int (x1), .int (x2), .int (x3), .int (x4), .int (x5), x6] [] h := by
  refine tf_LW_go ?_
  exact ⟨⟨(by first | rfl | trivial), (show 270 < nc by omega)⟩, ⟨q.1, fun c1 => ⟨⟨(by first | rfl | trivial), (show 270 < nc by omega)⟩, ⟨⟨(by first | rfl | trivial), (show 270 < nc by omega)⟩, ⟨⟨(by first | rfl | trivial), (show 289 < nc by omega), (q.2 c1).1⟩, ⟨⟨(by first | rfl | trivial), (show 289 < nc by omega), (q.2 c1).2.1⟩, ⟨⟨(by first | rfl | trivial), (show 270 < nc by omega)⟩, ⟨⟨(by first | rfl | trivial), (show 270 < nc by omega)⟩, ⟨⟨(by first | rfl | trivial), (show 270 < nc by omega)⟩, ⟨⟨(by first | rfl | trivial), (show 289 < nc by omega), (q.2 c1).2.2.1⟩, ⟨⟨(by first | rfl | trivial), (show 288 < nc by omega), (q.2 c1).2.2.2.1⟩, ⟨Nat.le_of_ble_eq_true rfl, Nat.le_of_ble_eq_true rfl, (q.2 c1).2.2.2.2⟩⟩⟩⟩⟩⟩⟩⟩⟩⟩⟩⟩
set_option maxRecDepth 100000 in
theorem go_X9_goesTrip_172 {nc : Nat} {C : tf_C} {Q : tf_Q} {h : LH} (hn : 297 ≤ nc) {x1 : Int32} {x2 : Int32} {x3 : Int32} {x4 : Int32} {x5 : Int32} {x6 : Value} {y1 : Int32} (q : lx_X9_goesTrip nc C Q 127 [.ref (270), .int (x1), .int (x2), .int (x3), .int (x4), .int (x5 + 1), x6] [] (tf_up h.1 270 37 y1, h.2)) : lx_X9_goesTrip nc C Q 172 [.ref (270), .int (x1), .int (x2), .int (x3), .int (x4), .int (x5), x6] [.int (y1), .ref (270)] h := by
  refine tf_LW_go ?_
  exact ⟨⟨(by first | rfl | trivial), (show 270 < nc by omega), (by first | rfl | trivial)⟩, q⟩
set_option maxRecDepth 100000 in
theorem go_X9_goesTrip_181 {nc : Nat} {C : tf_C} {Q : tf_Q} {h : LH} (hn : 297 ≤ nc) {x1 : Int32} {x2 : Int32} {x3 : Int32} {x4 : Int32} {x5 : Int32} {x6 : Value} (q : lx_X9_goesTrip nc C Q 184 [.ref (270), .int (x1), .int (x2), .int (x3), .int (x4), .int (0), x6] [] h) : lx_X9_goesTrip nc C Q 181 [.ref (270), .int (x1), .int (x2), .int (x3), .int (x4), .int (x5), x6] [] h := by
  refine tf_LW_go ?_
  exact q
set_option maxRecDepth 100000 in
theorem go_X9_goesTrip_184 {nc : Nat} {C : tf_C} {Q : tf_Q} {h : LH} (hn : 297 ≤ nc) {x1 : Int32} {x2 : Int32} {x3 : Int32} {x4 : Int32} {x5 : Int32} {x6 : Value} (q : ((h.1 270 36) ≤ x5 → lx_X9_goesTrip nc C Q 218 [.ref (270), .int (x1), .int (x2), .int (x3), .int (x4), .int (x5), x6] [] h) ∧ (¬ (h.1 270 36) ≤ x5 → (vp_in x5 8) ∧ (vp_in (h.1 289 (x5 : Int32).toNatClampNeg) 14) ∧ (vp_in (h.1 289 (x5 : Int32).toNatClampNeg) 14) ∧ lx_X9_goesTrip nc C Q 184 [.ref (270), .int (x1), .int (x2), .int (x3), .int (x4), .int (x5 + 1), x6] [] (tf_up h.1 288 (h.1 289 (x5 : Int32).toNatClampNeg : Int32).toNatClampNeg ((h.1 288 (h.1 289 (x5 : Int32).toNatClampNeg : Int32).toNatClampNeg) - (h.1 270 37)), h.2))) : lx_X9_goesTrip nc C Q 184 [.ref (270), .int (x1), .int (x2), .int (x3), .int (x4), .int (x5), x6] [] h := by
  refine tf_LW_go ?_
  exact ⟨⟨(by first | rfl | trivial), (show 270 < nc by omega)⟩, ⟨q.1, fun c1 => ⟨⟨(by first | rfl | trivial), (show 270 < nc by omega)⟩, ⟨⟨(by first | rfl | trivial), (show 270 < nc by omega)⟩, ⟨⟨(by first | rfl | trivial), (show 289 < nc by omega), (q.2 c1).1⟩, ⟨⟨(by first | rfl | trivial), (show 288 < nc by omega), (q.2 c1).2.1⟩, ⟨⟨(by first | rfl | trivial), (show 270 < nc by omega)⟩, ⟨⟨(by first | rfl | trivial), (show 288 < nc by omega), (q.2 c1).2.2.1⟩, (q.2 c1).2.2.2⟩⟩⟩⟩⟩⟩⟩⟩
set_option maxRecDepth 100000 in
theorem go_X9_goesTrip_218 {nc : Nat} {C : tf_C} {Q : tf_Q} {h : LH} (hn : 297 ≤ nc) {x1 : Int32} {x2 : Int32} {x3 : Int32} {x4 : Int32} {x5 : Int32} {x6 : Value} (q : Q (.int (1)) h) : lx_X9_goesTrip nc C Q 218 [.ref (270), .int (x1), .int (x2), .int (x3), .int (x4), .int (x5), x6] [] h := by
  refine tf_LW_go ?_
  exact ⟨(by first | rfl | trivial), q⟩
abbrev lx_X9_trip (nc : Nat) (C : tf_C) (Q : tf_Q) : tf_X := tf_LW nc C (tf_F 7) (tf_M 7) (tf_I 7) (tf_Eh 91) 1 tb_X9_trip Q
set_option maxRecDepth 100000 in
theorem go_X9_trip_0 {nc : Nat} {C : tf_C} {Q : tf_Q} {h : LH} (hn : 297 ≤ nc) {x1 : Int32} {x2 : Int32} (q : lx_X9_trip nc C Q 7 [.ref (270), .int (x1), .int (x2), .int (0), tf_z] [] (tf_up h.1 270 0 0, h.2)) : lx_X9_trip nc C Q 0 [.ref (270), .int (x1), .int (x2), tf_z, tf_z] [] h := by
  refine tf_LW_go ?_
  exact ⟨⟨(by first | rfl | trivial), (show 270 < nc by omega), (by first | rfl | trivial)⟩, q⟩
theorem en_X9_trip {nc d : Nat} {Q : tf_Q} {h : LH} (hn : 297 ≤ nc) {x1 : Int32} {x2 : Int32} (q : lx_X9_trip nc (tf_Cd nc d) Q 0 [.ref (270), .int (x1), .int (x2), tf_z, tf_z] [] h) : tf_Cd nc (d + 1) 91 [.ref (270), .int (x1), .int (x2)] h Q := by
  exact ⟨⟨Nat.le_of_ble_eq_true rfl, Or.inr ⟨rfl, (show 270 < nc by omega)⟩⟩, q⟩
set_option maxRecDepth 100000 in
theorem go_X9_trip_7 {nc : Nat} {C : tf_C} {Q : tf_Q} {h : LH} (hn : 297 ≤ nc) {x1 : Int32} {x2 : Int32} {x3 : Int32} (q : ((h.1 271 (1 : Int32).toNatClampNeg) ≤ x3 → lx_X9_trip nc C Q 35 [.ref (270), .int (x1), .int (x2), .int (x3), tf_z] [] h) ∧ (¬ (h.1 271 (1 : Int32).toNatClampNeg) ≤ x3 → C 3 [.ref (270), .int (x3), .int (4)] h (fun r g => lx_X9_trip nc C Q 28 [.ref (270), .int (x1), .int (x2), .int (x3), tf_z] (r :: [.int (x3), .ref (288)]) g))) : lx_X9_trip nc C Q 7 [.ref (270), .int (x1), .int (x2), .int (x3), tf_z] [] h := by
  refine tf_LW_go ?_
  exact ⟨⟨(by first | rfl | trivial), (show 270 < nc by omega)⟩, ⟨⟨(by first | rfl | trivial), (show 271 < nc by omega), (vp_in_iff.mpr (by decide))⟩, ⟨q.1, fun c1 => ⟨⟨(by first | rfl | trivial), (show 270 < nc by omega)⟩, ⟨Nat.le_of_ble_eq_true rfl, Nat.le_of_ble_eq_true rfl, (q.2 c1)⟩⟩⟩⟩⟩
set_option maxRecDepth 100000 in
theorem go_X9_trip_28 {nc : Nat} {C : tf_C} {Q : tf_Q} {h : LH} (hn : 297 ≤ nc) {x1 : Int32} {x2 : Int32} {x3 : Int32} {y0 ny0 : Nat} {y1 : Int32} {y2 : Int32} (Ky0_0 : tf_K y0 = 8) (Ny0_0 : tf_N y0 = ny0) (By0 : y0 < nc) (q : (vp_in y1 ny0) ∧ lx_X9_trip nc C Q 7 [.ref (270), .int (x1), .int (x2), .int (x3 + 1), tf_z] [] (tf_up h.1 y0 (y1 : Int32).toNatClampNeg y2, h.2)) : lx_X9_trip nc C Q 28 [.ref (270), .int (x1), .int (x2), .int (x3), tf_z] [.int (y2), .int (y1), .ref (y0)] h := by
  refine tf_LW_go ?_
  show (tf_K y0 = 8 ∧ y0 < nc ∧ vp_in y1 (tf_N y0)) ∧ lx_X9_trip nc C Q 7 [.ref (270), .int (x1), .int (x2), .int (x3 + 1), tf_z] [] (tf_up h.1 y0 (y1 : Int32).toNatClampNeg y2, h.2)
  try simp only [Ny0_0]
  exact ⟨⟨Ky0_0, (show y0 < nc by omega), q.1⟩, q.2⟩
set_option maxRecDepth 100000 in
theorem go_X9_trip_35 {nc : Nat} {C : tf_C} {Q : tf_Q} {h : LH} (hn : 297 ≤ nc) {x1 : Int32} {x2 : Int32} {x3 : Int32} (q : C 90 [.ref (270)] h (fun r g => lx_X9_trip nc C Q 41 [.ref (270), .int (x1), .int (x2), .int (0), tf_z] (r :: []) g)) : lx_X9_trip nc C Q 35 [.ref (270), .int (x1), .int (x2), .int (x3), tf_z] [] h := by
  refine tf_LW_go ?_
  exact ⟨Nat.le_of_ble_eq_true rfl, Nat.le_of_ble_eq_true rfl, q⟩
set_option maxRecDepth 100000 in
theorem go_X9_trip_41 {nc : Nat} {C : tf_C} {Q : tf_Q} {h : LH} (hn : 297 ≤ nc) {x1 : Int32} {x2 : Int32} {x3 : Int32} {y0 : Int32} (q : lx_X9_trip nc C Q 43 [.ref (270), .int (x1), .int (x2), .int (x3), .int (y0)] [] h) : lx_X9_trip nc C Q 41 [.ref (270), .int (x1), .int (x2), .int (x3), tf_z] [.int (y0)] h := by
  refine tf_LW_go ?_
  exact q
set_option maxRecDepth 100000 in
theorem go_X9_trip_43 {nc : Nat} {C : tf_C} {Q : tf_Q} {h : LH} (hn : 297 ≤ nc) {x1 : Int32} {x2 : Int32} {x3 : Int32} {x4 : Int32} (q : (x4 = (0 : Int32) → lx_X9_trip nc C Q 65 [.ref (270), .int (x1), .int (x2), .int (x3), .int (x4)] [] h) ∧ (¬ x4 = (0 : Int32) → (x3 = x1 → lx_X9_trip nc C Q 65 [.ref (270), .int (x1), .int (x2), .int (x3), .int (x4)] [] h) ∧ (¬ x3 = x1 → C 90 [.ref (270)] h (fun r g => lx_X9_trip nc C Q 60 [.ref (270), .int (x1), .int (x2), .int (x3 + 1), .int (x4)] (r :: []) g)))) : lx_X9_trip nc C Q 43 [.ref (270), .int (x1), .int (x2), .int (x3), .int (x4)] [] h := by
  refine tf_LW_go ?_
  exact ⟨q.1, fun c2 => ⟨(q.2 c2).1, fun c1 => ⟨Nat.le_of_ble_eq_true rfl, Nat.le_of_ble_eq_true rfl, ((q.2 c2).2 c1)⟩⟩⟩
set_option maxRecDepth 100000 in
theorem go_X9_trip_60 {nc : Nat} {C : tf_C} {Q : tf_Q} {h : LH} (hn : 297 ≤ nc) {x1 : Int32} {x2 : Int32} {x3 : Int32} {x4 : Int32} {y0 : Int32} (q : lx_X9_trip nc C Q 43 [.ref (270), .int (x1), .int (x2), .int (x3), .int (y0)] [] h) : lx_X9_trip nc C Q 60 [.ref (270), .int (x1), .int (x2), .int (x3), .int (x4)] [.int (y0)] h := by
  refine tf_LW_go ?_
  exact q
set_option maxRecDepth 100000 in
theorem go_X9_trip_65 {nc : Nat} {C : tf_C} {Q : tf_Q} {h : LH} (hn : 297 ≤ nc) {x1 : Int32} {x2 : Int32} {x3 : Int32} {x4 : Int32} (q : (x4 = (0 : Int32) → (x1 = ((-1) : Int32) → (x2 = (0 : Int32) → lx_X9_trip nc C Q 84 [.ref (270), .int (x1), .int (x2), .int (x3), .int (x4)] [.int (x3)] h) ∧ (¬ x2 = (0 : Int32) → lx_X9_trip nc C Q 83 [.ref (270), .int (x1), .int (x2), .int (x3), .int (x4)] [] h)) ∧ (¬ x1 = ((-1) : Int32) → lx_X9_trip nc C Q 83 [.ref (270), .int (x1), .int (x2), .int (x3), .int (x4)] [] h)) ∧ (¬ x4 = (0 : Int32) → lx_X9_trip nc C Q 85 [.ref (270), .int (x1), .int (x2), .int (x3), .int (x4)] [] h)) : lx_X9_trip nc C Q 65 [.ref (270), .int (x1), .int (x2), .int (x3), .int (x4)] [] h := by
  refine tf_LW_go ?_
  exact ⟨fun c3 => ⟨fun c2 => ⟨fun c1 => (((q.1 c3).1 c2).1 c1), ((q.1 c3).1 c2).2⟩, (q.1 c3).2⟩, q.2⟩
set_option maxRecDepth 100000 in
theorem go_X9_trip_83 {nc : Nat} {C : tf_C} {Q : tf_Q} {h : LH} (hn : 297 ≤ nc) {x1 : Int32} {x2 : Int32} {x3 : Int32} {x4 : Int32} (q : lx_X9_trip nc C Q 84 [.ref (270), .int (x1), .int (x2), .int (x3), .int (x4)] [.int ((-1))] h) : lx_X9_trip nc C Q 83 [.ref (270), .int (x1), .int (x2), .int (x3), .int (x4)] [] h := by
  refine tf_LW_go ?_
  exact q
set_option maxRecDepth 100000 in
theorem go_X9_trip_84 {nc : Nat} {C : tf_C} {Q : tf_Q} {h : LH} (hn : 297 ≤ nc) {x1 : Int32} {x2 : Int32} {x3 : Int32} {x4 : Int32} {y0 : Int32} (q : Q (.int (y0)) h) : lx_X9_trip nc C Q 84 [.ref (270), .int (x1), .int (x2), .int (x3), .int (x4)] [.int (y0)] h := by
  refine tf_LW_go ?_
  exact ⟨(by first | trivial | rfl), q⟩
set_option maxRecDepth 100000 in
theorem go_X9_trip_85 {nc : Nat} {C : tf_C} {Q : tf_Q} {h : LH} (hn : 297 ≤ nc) {x1 : Int32} {x2 : Int32} {x3 : Int32} {x4 : Int32} (q : (x2 = (0 : Int32) → lx_X9_trip nc C Q 138 [.ref (270), .int (x1), .int (x2), .int (x3), .int (x4)] [.int (h.1 270 37)] h) ∧ (¬ x2 = (0 : Int32) → lx_X9_trip nc C Q 96 [.ref (270), .int (x1), .int (x2), .int (x3), .int (x4)] [] h)) : lx_X9_trip nc C Q 85 [.ref (270), .int (x1), .int (x2), .int (x3), .int (x4)] [] h := by
  refine tf_LW_go ?_
  exact ⟨fun c1 => ⟨⟨(by first | rfl | trivial), (show 270 < nc by omega)⟩, (q.1 c1)⟩, q.2⟩
set_option maxRecDepth 100000 in
theorem go_X9_trip_96 {nc : Nat} {C : tf_C} {Q : tf_Q} {h : LH} (hn : 297 ≤ nc) {x1 : Int32} {x2 : Int32} {x3 : Int32} {x4 : Int32} (q : (x2 = (1 : Int32) → lx_X9_trip nc C Q 138 [.ref (270), .int (x1), .int (x2), .int (x3), .int (x4)] [.int (h.1 270 36)] h) ∧ (¬ x2 = (1 : Int32) → lx_X9_trip nc C Q 108 [.ref (270), .int (x1), .int (x2), .int (x3), .int (x4)] [] h)) : lx_X9_trip nc C Q 96 [.ref (270), .int (x1), .int (x2), .int (x3), .int (x4)] [] h := by
  refine tf_LW_go ?_
  exact ⟨fun c1 => ⟨⟨(by first | rfl | trivial), (show 270 < nc by omega)⟩, (q.1 c1)⟩, q.2⟩
set_option maxRecDepth 100000 in
theorem go_X9_trip_108 {nc : Nat} {C : tf_C} {Q : tf_Q} {h : LH} (hn : 297 ≤ nc) {x1 : Int32} {x2 : Int32} {x3 : Int32} {x4 : Int32} (q : C 0 [.int (x2 - 10), .int (0), .int ((h.1 270 36) - 1)] h (fun r g => lx_X9_trip nc C Q 122 [.ref (270), .int (x1), .int (x2), .int (x3), .int (x4)] (r :: []) g)) : lx_X9_trip nc C Q 108 [.ref (270), .int (x1), .int (x2), .int (x3), .int (x4)] [] h := by
  refine tf_LW_go ?_
  exact ⟨⟨(by first | rfl | trivial), (show 270 < nc by omega)⟩, ⟨Nat.le_of_ble_eq_true rfl, Nat.le_of_ble_eq_true rfl, q⟩⟩
set_option maxRecDepth 100000 in
theorem go_X9_trip_122 {nc : Nat} {C : tf_C} {Q : tf_Q} {h : LH} (hn : 297 ≤ nc) {x1 : Int32} {x2 : Int32} {x3 : Int32} {x4 : Int32} {y0 : Int32} (q : (y0 = (0 : Int32) → lx_X9_trip nc C Q 137 [.ref (270), .int (x1), .int (x2), .int (x3), .int (x4)] [] h) ∧ (¬ y0 = (0 : Int32) → (vp_in (x2 - 10) 8) ∧ lx_X9_trip nc C Q 138 [.ref (270), .int (x1), .int (x2), .int (x3), .int (x4)] [.int (h.1 289 (x2 - 10 : Int32).toNatClampNeg)] h)) : lx_X9_trip nc C Q 122 [.ref (270), .int (x1), .int (x2), .int (x3), .int (x4)] [.int (y0)] h := by
  refine tf_LW_go ?_
  exact ⟨q.1, fun c1 => ⟨⟨(by first | rfl | trivial), (show 270 < nc by omega)⟩, ⟨⟨(by first | rfl | trivial), (show 289 < nc by omega), (q.2 c1).1⟩, (q.2 c1).2⟩⟩⟩
set_option maxRecDepth 100000 in
theorem go_X9_trip_137 {nc : Nat} {C : tf_C} {Q : tf_Q} {h : LH} (hn : 297 ≤ nc) {x1 : Int32} {x2 : Int32} {x3 : Int32} {x4 : Int32} (q : lx_X9_trip nc C Q 138 [.ref (270), .int (x1), .int (x2), .int (x3), .int (x4)] [.int ((-1))] h) : lx_X9_trip nc C Q 137 [.ref (270), .int (x1), .int (x2), .int (x3), .int (x4)] [] h := by
  refine tf_LW_go ?_
  exact q
set_option maxRecDepth 100000 in
theorem go_X9_trip_138 {nc : Nat} {C : tf_C} {Q : tf_Q} {h : LH} (hn : 297 ≤ nc) {x1 : Int32} {x2 : Int32} {x3 : Int32} {x4 : Int32} {y0 : Int32} (q : Q (.int (y0)) h) : lx_X9_trip nc C Q 138 [.ref (270), .int (x1), .int (x2), .int (x3), .int (x4)] [.int (y0)] h := by
  refine tf_LW_go ?_
  exact ⟨(by first | trivial | rfl), q⟩
abbrev lx_X9_flowIn (nc : Nat) (C : tf_C) (Q : tf_Q) : tf_X := tf_LW nc C (tf_F 7) (tf_M 7) (tf_I 7) (tf_Eh 92) 1 tb_X9_flowIn Q
set_option maxRecDepth 100000 in
theorem go_X9_flowIn_0 {nc : Nat} {C : tf_C} {Q : tf_Q} {h : LH} (hn : 297 ≤ nc) {x1 : Int32} {x2 : Int32} (q : (vp_in ((173 * x1) + 1) 865) ∧ ((h.1 271 ((173 * x1) + 1 : Int32).toNatClampNeg) ≤ x2 → lx_X9_flowIn nc C Q 37 [.ref (270), .int (x1), .int (x2), .int (173 * x1)] [] h) ∧ (¬ (h.1 271 ((173 * x1) + 1 : Int32).toNatClampNeg) ≤ x2 → (vp_in ((((173 * x1) + 72) + (7 * x2)) + 4) 865) ∧ lx_X9_flowIn nc C Q 38 [.ref (270), .int (x1), .int (x2), .int (173 * x1)] [.int (h.1 271 ((((173 * x1) + 72) + (7 * x2)) + 4 : Int32).toNatClampNeg)] h)) : lx_X9_flowIn nc C Q 0 [.ref (270), .int (x1), .int (x2), tf_z] [] h := by
  refine tf_LW_go ?_
  exact ⟨⟨(by first | rfl | trivial), (show 270 < nc by omega)⟩, ⟨⟨(by first | rfl | trivial), (show 271 < nc by omega), q.1⟩, ⟨q.2.1, fun c1 => ⟨⟨(by first | rfl | trivial), (show 270 < nc by omega)⟩, ⟨⟨(by first | rfl | trivial), (show 271 < nc by omega), (q.2.2 c1).1⟩, (q.2.2 c1).2⟩⟩⟩⟩⟩
theorem en_X9_flowIn {nc d : Nat} {Q : tf_Q} {h : LH} (hn : 297 ≤ nc) {x1 : Int32} {x2 : Int32} (q : lx_X9_flowIn nc (tf_Cd nc d) Q 0 [.ref (270), .int (x1), .int (x2), tf_z] [] h) : tf_Cd nc (d + 1) 92 [.ref (270), .int (x1), .int (x2)] h Q := by
  exact ⟨⟨Nat.le_of_ble_eq_true rfl, Or.inr ⟨rfl, (show 270 < nc by omega)⟩⟩, q⟩
set_option maxRecDepth 100000 in
theorem go_X9_flowIn_37 {nc : Nat} {C : tf_C} {Q : tf_Q} {h : LH} (hn : 297 ≤ nc) {x1 : Int32} {x2 : Int32} {x3 : Int32} (q : lx_X9_flowIn nc C Q 38 [.ref (270), .int (x1), .int (x2), .int (x3)] [.int (0)] h) : lx_X9_flowIn nc C Q 37 [.ref (270), .int (x1), .int (x2), .int (x3)] [] h := by
  refine tf_LW_go ?_
  exact q
set_option maxRecDepth 100000 in
theorem go_X9_flowIn_38 {nc : Nat} {C : tf_C} {Q : tf_Q} {h : LH} (hn : 297 ≤ nc) {x1 : Int32} {x2 : Int32} {x3 : Int32} {y0 : Int32} (q : Q (.int (y0)) h) : lx_X9_flowIn nc C Q 38 [.ref (270), .int (x1), .int (x2), .int (x3)] [.int (y0)] h := by
  refine tf_LW_go ?_
  exact ⟨(by first | trivial | rfl), q⟩
abbrev lx_X9_apart (nc : Nat) (C : tf_C) (Q : tf_Q) : tf_X := tf_LW nc C (tf_F 7) (tf_M 7) (tf_I 7) (tf_Eh 93) 1 tb_X9_apart Q
set_option maxRecDepth 100000 in
theorem go_X9_apart_0 {nc : Nat} {C : tf_C} {Q : tf_Q} {h : LH} (hn : 297 ≤ nc) {x1 : Int32} (q : C 0 [.int (x1), .int (0), .int (2)] (tf_up h.1 270 0 0, h.2) (fun r g => lx_X9_apart nc C Q 11 [.ref (270), .int (x1), tf_z, tf_z] (r :: []) g)) : lx_X9_apart nc C Q 0 [.ref (270), .int (x1), tf_z, tf_z] [] h := by
  refine tf_LW_go ?_
  exact ⟨⟨(by first | rfl | trivial), (show 270 < nc by omega), (by first | rfl | trivial)⟩, ⟨Nat.le_of_ble_eq_true rfl, Nat.le_of_ble_eq_true rfl, q⟩⟩
theorem en_X9_apart {nc d : Nat} {Q : tf_Q} {h : LH} (hn : 297 ≤ nc) {x1 : Int32} (q : lx_X9_apart nc (tf_Cd nc d) Q 0 [.ref (270), .int (x1), tf_z, tf_z] [] h) : tf_Cd nc (d + 1) 93 [.ref (270), .int (x1)] h Q := by
  exact ⟨⟨Nat.le_of_ble_eq_true rfl, Or.inr ⟨rfl, (show 270 < nc by omega)⟩⟩, q⟩
set_option maxRecDepth 100000 in
theorem go_X9_apart_11 {nc : Nat} {C : tf_C} {Q : tf_Q} {h : LH} (hn : 297 ≤ nc) {x1 : Int32} {y0 : Int32} (q : (y0 = (0 : Int32) → lx_X9_apart nc C Q 23 [.ref (270), .int (x1), tf_z, tf_z] [] h) ∧ (¬ y0 = (0 : Int32) → (vp_in x1 3) ∧ ((h.1 273 (x1 : Int32).toNatClampNeg) = (0 : Int32) → lx_X9_apart nc C Q 23 [.ref (270), .int (x1), tf_z, tf_z] [] h) ∧ (¬ (h.1 273 (x1 : Int32).toNatClampNeg) = (0 : Int32) → lx_X9_apart nc C Q 25 [.ref (270), .int (x1), tf_z, tf_z] [] h))) : lx_X9_apart nc C Q 11 [.ref (270), .int (x1), tf_z, tf_z] [.int (y0)] h := by
  refine tf_LW_go ?_
  exact ⟨q.1, fun c2 => ⟨⟨(by first | rfl | trivial), (show 270 < nc by omega)⟩, ⟨⟨(Or.inr (by first | rfl | trivial)), (show 273 < nc by omega), (q.2 c2).1⟩, ⟨fun c1 => ((q.2 c2).2.1 c1), (q.2 c2).2.2⟩⟩⟩⟩
set_option maxRecDepth 100000 in
theorem go_X9_apart_23 {nc : Nat} {C : tf_C} {Q : tf_Q} {h : LH} (hn : 297 ≤ nc) {x1 : Int32} (q : Q (.int ((-1))) h) : lx_X9_apart nc C Q 23 [.ref (270), .int (x1), tf_z, tf_z] [] h := by
  refine tf_LW_go ?_
  exact ⟨(by first | trivial | rfl), q⟩
set_option maxRecDepth 100000 in
theorem go_X9_apart_25 {nc : Nat} {C : tf_C} {Q : tf_Q} {h : LH} (hn : 297 ≤ nc) {x1 : Int32} (q : lx_X9_apart nc C Q 29 [.ref (270), .int (x1), .int (0), .int (0)] [] h) : lx_X9_apart nc C Q 25 [.ref (270), .int (x1), tf_z, tf_z] [] h := by
  refine tf_LW_go ?_
  exact q
set_option maxRecDepth 100000 in
theorem go_X9_apart_29 {nc : Nat} {C : tf_C} {Q : tf_Q} {h : LH} (hn : 297 ≤ nc) {x1 : Int32} {x2 : Int32} {x3 : Int32} (q : ((14 : Int32) ≤ x3 → lx_X9_apart nc C Q 66 [.ref (270), .int (x1), .int (x2), .int (x3)] [] h) ∧ (¬ (14 : Int32) ≤ x3 → C 92 [.ref (270), .int (0), .int (x3)] h (fun r g => lx_X9_apart nc C Q 42 [.ref (270), .int (x1), .int (x2), .int (x3)] (r :: [.int (x2)]) g))) : lx_X9_apart nc C Q 29 [.ref (270), .int (x1), .int (x2), .int (x3)] [] h := by
  refine tf_LW_go ?_
  exact ⟨q.1, fun c1 => ⟨Nat.le_of_ble_eq_true rfl, Nat.le_of_ble_eq_true rfl, (q.2 c1)⟩⟩
set_option maxRecDepth 100000 in
theorem go_X9_apart_42 {nc : Nat} {C : tf_C} {Q : tf_Q} {h : LH} (hn : 297 ≤ nc) {x1 : Int32} {x2 : Int32} {x3 : Int32} {y0 : Int32} {y1 : Int32} (q : C 92 [.ref (270), .int (x1 + 1), .int (x3)] h (fun r g => lx_X9_apart nc C Q 50 [.ref (270), .int (x1), .int (x2), .int (x3)] (r :: [.int (y1), .int (y0)]) g)) : lx_X9_apart nc C Q 42 [.ref (270), .int (x1), .int (x2), .int (x3)] [.int (y1), .int (y0)] h := by
  refine tf_LW_go ?_
  exact ⟨Nat.le_of_ble_eq_true rfl, Nat.le_of_ble_eq_true rfl, q⟩
set_option maxRecDepth 100000 in
theorem go_X9_apart_50 {nc : Nat} {C : tf_C} {Q : tf_Q} {h : LH} (hn : 297 ≤ nc) {x1 : Int32} {x2 : Int32} {x3 : Int32} {y0 : Int32} {y1 : Int32} {y2 : Int32} (q : (y1 = y2 → lx_X9_apart nc C Q 58 [.ref (270), .int (x1), .int (x2), .int (x3)] [.int (0), .int (y0)] h) ∧ (¬ y1 = y2 → lx_X9_apart nc C Q 57 [.ref (270), .int (x1), .int (x2), .int (x3)] [.int (y0)] h)) : lx_X9_apart nc C Q 50 [.ref (270), .int (x1), .int (x2), .int (x3)] [.int (y2), .int (y1), .int (y0)] h := by
  refine tf_LW_go ?_
  exact ⟨fun c1 => (q.1 c1), q.2⟩
set_option maxRecDepth 100000 in
theorem go_X9_apart_57 {nc : Nat} {C : tf_C} {Q : tf_Q} {h : LH} (hn : 297 ≤ nc) {x1 : Int32} {x2 : Int32} {x3 : Int32} {y0 : Int32} (q : lx_X9_apart nc C Q 58 [.ref (270), .int (x1), .int (x2), .int (x3)] [.int (1), .int (y0)] h) : lx_X9_apart nc C Q 57 [.ref (270), .int (x1), .int (x2), .int (x3)] [.int (y0)] h := by
  refine tf_LW_go ?_
  exact q
set_option maxRecDepth 100000 in
theorem go_X9_apart_58 {nc : Nat} {C : tf_C} {Q : tf_Q} {h : LH} (hn : 297 ≤ nc) {x1 : Int32} {x2 : Int32} {x3 : Int32} {y0 : Int32} {y1 : Int32} (q : lx_X9_apart nc C Q 29 [.ref (270), .int (x1), .int (y0 + y1), .int (x3 + 1)] [] h) : lx_X9_apart nc C Q 58 [.ref (270), .int (x1), .int (x2), .int (x3)] [.int (y1), .int (y0)] h := by
  refine tf_LW_go ?_
  exact q
set_option maxRecDepth 100000 in
theorem go_X9_apart_66 {nc : Nat} {C : tf_C} {Q : tf_Q} {h : LH} (hn : 297 ≤ nc) {x1 : Int32} {x2 : Int32} {x3 : Int32} (q : Q (.int (x2)) h) : lx_X9_apart nc C Q 66 [.ref (270), .int (x1), .int (x2), .int (x3)] [] h := by
  refine tf_LW_go ?_
  exact ⟨(by first | trivial | rfl), q⟩
abbrev lx_X9_span (nc : Nat) (C : tf_C) (Q : tf_Q) : tf_X := tf_LW nc C (tf_F 7) (tf_M 7) (tf_I 7) (tf_Eh 94) 1 tb_X9_span Q
set_option maxRecDepth 100000 in
theorem go_X9_span_0 {nc : Nat} {C : tf_C} {Q : tf_Q} {h : LH} (hn : 297 ≤ nc) {x1 : Int32} {x2 : Int32} (q : C 5 [.ref (270), .int (x1)] (tf_up h.1 270 0 0, h.2) (fun r g => lx_X9_span nc C Q 10 [.ref (270), .int (x1), .int (x2), tf_z, tf_z, tf_z, tf_z] (r :: []) g)) : lx_X9_span nc C Q 0 [.ref (270), .int (x1), .int (x2), tf_z, tf_z, tf_z, tf_z] [] h := by
  refine tf_LW_go ?_
  exact ⟨⟨(by first | rfl | trivial), (show 270 < nc by omega), (by first | rfl | trivial)⟩, ⟨Nat.le_of_ble_eq_true rfl, Nat.le_of_ble_eq_true rfl, q⟩⟩
theorem en_X9_span {nc d : Nat} {Q : tf_Q} {h : LH} (hn : 297 ≤ nc) {x1 : Int32} {x2 : Int32} (q : lx_X9_span nc (tf_Cd nc d) Q 0 [.ref (270), .int (x1), .int (x2), tf_z, tf_z, tf_z, tf_z] [] h) : tf_Cd nc (d + 1) 94 [.ref (270), .int (x1), .int (x2)] h Q := by
  exact ⟨⟨Nat.le_of_ble_eq_true rfl, Or.inr ⟨rfl, (show 270 < nc by omega)⟩⟩, q⟩
set_option maxRecDepth 100000 in
theorem go_X9_span_10 {nc : Nat} {C : tf_C} {Q : tf_Q} {h : LH} (hn : 297 ≤ nc) {x1 : Int32} {x2 : Int32} {y0 : Int32} (q : (y0 = (0 : Int32) → lx_X9_span nc C Q 20 [.ref (270), .int (x1), .int (x2), tf_z, tf_z, tf_z, tf_z] [] h) ∧ (¬ y0 = (0 : Int32) → C 33 [.ref (270)] h (fun r g => lx_X9_span nc C Q 17 [.ref (270), .int (x1), .int (x2), tf_z, tf_z, tf_z, tf_z] (r :: []) g))) : lx_X9_span nc C Q 10 [.ref (270), .int (x1), .int (x2), tf_z, tf_z, tf_z, tf_z] [.int (y0)] h := by
  refine tf_LW_go ?_
  exact ⟨q.1, fun c1 => ⟨Nat.le_of_ble_eq_true rfl, Nat.le_of_ble_eq_true rfl, (q.2 c1)⟩⟩
set_option maxRecDepth 100000 in
theorem go_X9_span_17 {nc : Nat} {C : tf_C} {Q : tf_Q} {h : LH} (hn : 297 ≤ nc) {x1 : Int32} {x2 : Int32} {y0 : Int32} (q : (y0 = (0 : Int32) → lx_X9_span nc C Q 20 [.ref (270), .int (x1), .int (x2), tf_z, tf_z, tf_z, tf_z] [] h) ∧ (¬ y0 = (0 : Int32) → lx_X9_span nc C Q 24 [.ref (270), .int (x1), .int (x2), tf_z, tf_z, tf_z, tf_z] [] h)) : lx_X9_span nc C Q 17 [.ref (270), .int (x1), .int (x2), tf_z, tf_z, tf_z, tf_z] [.int (y0)] h := by
  refine tf_LW_go ?_
  exact ⟨fun c1 => (q.1 c1), q.2⟩
set_option maxRecDepth 100000 in
theorem go_X9_span_20 {nc : Nat} {C : tf_C} {Q : tf_Q} {h : LH} (hn : 297 ≤ nc) {x1 : Int32} {x2 : Int32} (q : Q (.int ((-1000))) h) : lx_X9_span nc C Q 20 [.ref (270), .int (x1), .int (x2), tf_z, tf_z, tf_z, tf_z] [] h := by
  refine tf_LW_go ?_
  exact ⟨(by first | trivial | rfl), q⟩
set_option maxRecDepth 100000 in
theorem go_X9_span_24 {nc : Nat} {C : tf_C} {Q : tf_Q} {h : LH} (hn : 297 ≤ nc) {x1 : Int32} {x2 : Int32} (q : C 3 [.ref (270), .int (x1), .int (3)] h (fun r g => lx_X9_span nc C Q 30 [.ref (270), .int (x1), .int (x2), tf_z, tf_z, tf_z, tf_z] (r :: []) g)) : lx_X9_span nc C Q 24 [.ref (270), .int (x1), .int (x2), tf_z, tf_z, tf_z, tf_z] [] h := by
  refine tf_LW_go ?_
  exact ⟨Nat.le_of_ble_eq_true rfl, Nat.le_of_ble_eq_true rfl, q⟩
set_option maxRecDepth 100000 in
theorem go_X9_span_30 {nc : Nat} {C : tf_C} {Q : tf_Q} {h : LH} (hn : 297 ≤ nc) {x1 : Int32} {x2 : Int32} {y0 : Int32} (q : lx_X9_span nc C Q 40 [.ref (270), .int (x1), .int (x2), .int (y0), .int ((-1000)), .int ((-99)), tf_z] [] h) : lx_X9_span nc C Q 30 [.ref (270), .int (x1), .int (x2), tf_z, tf_z, tf_z, tf_z] [.int (y0)] h := by
  refine tf_LW_go ?_
  exact q
set_option maxRecDepth 100000 in
theorem go_X9_span_40 {nc : Nat} {C : tf_C} {Q : tf_Q} {h : LH} (hn : 297 ≤ nc) {x1 : Int32} {x2 : Int32} {x3 : Int32} {x4 : Int32} {x5 : Int32} {x6 : Value} (q : ((99 : Int32) < x5 → lx_X9_span nc C Q 91 [.ref (270), .int (x1), .int (x2), .int (x3), .int (x4), .int (x5), x6] [] h) ∧ (¬ (99 : Int32) < x5 → (x2 = (0 : Int32) → lx_X9_span nc C Q 56 [.ref (270), .int (x1), .int (x2), .int (x3), .int (x4), .int (x5), x6] [] h) ∧ (¬ x2 = (0 : Int32) → lx_X9_span nc C Q 59 [.ref (270), .int (x1), .int (x2), .int (x3), .int (x4), .int (x5), x6] [.int (x5)] h))) : lx_X9_span nc C Q 40 [.ref (270), .int (x1), .int (x2), .int (x3), .int (x4), .int (x5), x6] [] h := by
  refine tf_LW_go ?_
  exact ⟨q.1, fun c2 => ⟨(q.2 c2).1, fun c1 => ((q.2 c2).2 c1)⟩⟩
set_option maxRecDepth 100000 in
theorem go_X9_span_56 {nc : Nat} {C : tf_C} {Q : tf_Q} {h : LH} (hn : 297 ≤ nc) {x1 : Int32} {x2 : Int32} {x3 : Int32} {x4 : Int32} {x5 : Int32} {x6 : Value} (q : lx_X9_span nc C Q 59 [.ref (270), .int (x1), .int (x2), .int (x3), .int (x4), .int (x5), x6] [.int (-x5)] h) : lx_X9_span nc C Q 56 [.ref (270), .int (x1), .int (x2), .int (x3), .int (x4), .int (x5), x6] [] h := by
  refine tf_LW_go ?_
  exact q
set_option maxRecDepth 100000 in
theorem go_X9_span_59 {nc : Nat} {C : tf_C} {Q : tf_Q} {h : LH} (hn : 297 ≤ nc) {x1 : Int32} {x2 : Int32} {x3 : Int32} {x4 : Int32} {x5 : Int32} {x6 : Value} {y0 : Int32} (q : C 4 [.ref (270), .int (x1), .int (3), .int (y0)] h (fun r g => lx_X9_span nc C Q 69 [.ref (270), .int (x1), .int (x2), .int (x3), .int (x4), .int (x5), .int (y0)] [] g)) : lx_X9_span nc C Q 59 [.ref (270), .int (x1), .int (x2), .int (x3), .int (x4), .int (x5), x6] [.int (y0)] h := by
  refine tf_LW_go ?_
  exact ⟨Nat.le_of_ble_eq_true rfl, Nat.le_of_ble_eq_true rfl, q⟩
set_option maxRecDepth 100000 in
theorem go_X9_span_69 {nc : Nat} {C : tf_C} {Q : tf_Q} {h : LH} (hn : 297 ≤ nc) {x1 : Int32} {x2 : Int32} {x3 : Int32} {x4 : Int32} {x5 : Int32} {x6 : Int32} (q : C 33 [.ref (270)] h (fun r g => lx_X9_span nc C Q 73 [.ref (270), .int (x1), .int (x2), .int (x3), .int (x4), .int (x5), .int (x6)] (r :: []) g)) : lx_X9_span nc C Q 69 [.ref (270), .int (x1), .int (x2), .int (x3), .int (x4), .int (x5), .int (x6)] [] h := by
  refine tf_LW_go ?_
  exact ⟨Nat.le_of_ble_eq_true rfl, Nat.le_of_ble_eq_true rfl, q⟩
set_option maxRecDepth 100000 in
theorem go_X9_span_73 {nc : Nat} {C : tf_C} {Q : tf_Q} {h : LH} (hn : 297 ≤ nc) {x1 : Int32} {x2 : Int32} {x3 : Int32} {x4 : Int32} {x5 : Int32} {x6 : Int32} {y0 : Int32} (q : (y0 = (0 : Int32) → lx_X9_span nc C Q 81 [.ref (270), .int (x1), .int (x2), .int (x3), .int (x4), .int (x5), .int (x6)] [] h) ∧ (¬ y0 = (0 : Int32) → lx_X9_span nc C Q 83 [.ref (270), .int (x1), .int (x2), .int (x3), .int (x4), .int (x5), .int (x6)] [.int (x6)] h)) : lx_X9_span nc C Q 73 [.ref (270), .int (x1), .int (x2), .int (x3), .int (x4), .int (x5), .int (x6)] [.int (y0)] h := by
  refine tf_LW_go ?_
  exact ⟨q.1, fun c1 => (q.2 c1)⟩
set_option maxRecDepth 100000 in
theorem go_X9_span_81 {nc : Nat} {C : tf_C} {Q : tf_Q} {h : LH} (hn : 297 ≤ nc) {x1 : Int32} {x2 : Int32} {x3 : Int32} {x4 : Int32} {x5 : Int32} {x6 : Int32} (q : lx_X9_span nc C Q 83 [.ref (270), .int (x1), .int (x2), .int (x3), .int (x4), .int (x5), .int (x6)] [.int (x4)] h) : lx_X9_span nc C Q 81 [.ref (270), .int (x1), .int (x2), .int (x3), .int (x4), .int (x5), .int (x6)] [] h := by
  refine tf_LW_go ?_
  exact q
set_option maxRecDepth 100000 in
theorem go_X9_span_83 {nc : Nat} {C : tf_C} {Q : tf_Q} {h : LH} (hn : 297 ≤ nc) {x1 : Int32} {x2 : Int32} {x3 : Int32} {x4 : Int32} {x5 : Int32} {x6 : Int32} {y0 : Int32} (q : lx_X9_span nc C Q 40 [.ref (270), .int (x1), .int (x2), .int (x3), .int (y0), .int (x5 + 1), .int (x6)] [] h) : lx_X9_span nc C Q 83 [.ref (270), .int (x1), .int (x2), .int (x3), .int (x4), .int (x5), .int (x6)] [.int (y0)] h := by
  refine tf_LW_go ?_
  exact q
set_option maxRecDepth 100000 in
theorem go_X9_span_91 {nc : Nat} {C : tf_C} {Q : tf_Q} {h : LH} (hn : 297 ≤ nc) {x1 : Int32} {x2 : Int32} {x3 : Int32} {x4 : Int32} {x5 : Int32} {x6 : Value} (q : C 4 [.ref (270), .int (x1), .int (3), .int (x3)] h (fun r g => lx_X9_span nc C Q 98 [.ref (270), .int (x1), .int (x2), .int (x3), .int (x4), .int (x5), x6] [] g)) : lx_X9_span nc C Q 91 [.ref (270), .int (x1), .int (x2), .int (x3), .int (x4), .int (x5), x6] [] h := by
  refine tf_LW_go ?_
  exact ⟨Nat.le_of_ble_eq_true rfl, Nat.le_of_ble_eq_true rfl, q⟩
set_option maxRecDepth 100000 in
theorem go_X9_span_98 {nc : Nat} {C : tf_C} {Q : tf_Q} {h : LH} (hn : 297 ≤ nc) {x1 : Int32} {x2 : Int32} {x3 : Int32} {x4 : Int32} {x5 : Int32} {x6 : Value} (q : Q (.int (x4)) h) : lx_X9_span nc C Q 98 [.ref (270), .int (x1), .int (x2), .int (x3), .int (x4), .int (x5), x6] [] h := by
  refine tf_LW_go ?_
  exact ⟨(by first | trivial | rfl), q⟩
abbrev lx_X9_asNow (nc : Nat) (C : tf_C) (Q : tf_Q) : tf_X := tf_LW nc C (tf_F 7) (tf_M 7) (tf_I 7) (tf_Eh 95) 0 tb_X9_asNow Q
set_option maxRecDepth 100000 in
theorem go_X9_asNow_0 {nc : Nat} {C : tf_C} {Q : tf_Q} {h : LH} (hn : 297 ≤ nc) (q : lx_X9_asNow nc C Q 2 [.ref (270), .int (0)] [] h) : lx_X9_asNow nc C Q 0 [.ref (270), tf_z] [] h := by
  refine tf_LW_go ?_
  exact q
theorem en_X9_asNow {nc d : Nat} {Q : tf_Q} {h : LH} (hn : 297 ≤ nc) (q : lx_X9_asNow nc (tf_Cd nc d) Q 0 [.ref (270), tf_z] [] h) : tf_Cd nc (d + 1) 95 [.ref (270)] h Q := by
  exact ⟨⟨Nat.le_of_ble_eq_true rfl, Or.inr ⟨rfl, (show 270 < nc by omega)⟩⟩, q⟩
set_option maxRecDepth 100000 in
theorem go_X9_asNow_2 {nc : Nat} {C : tf_C} {Q : tf_Q} {h : LH} (hn : 297 ≤ nc) {x1 : Int32} (q : ((h.1 271 (1 : Int32).toNatClampNeg) ≤ x1 → lx_X9_asNow nc C Q 57 [.ref (270), .int (x1)] [] h) ∧ (¬ (h.1 271 (1 : Int32).toNatClampNeg) ≤ x1 → C 3 [.ref (270), .int (x1), .int (6)] h (fun r g => lx_X9_asNow nc C Q 24 [.ref (270), .int (x1)] (r :: [.int (x1), .ref (291)]) g))) : lx_X9_asNow nc C Q 2 [.ref (270), .int (x1)] [] h := by
  refine tf_LW_go ?_
  exact ⟨⟨(by first | rfl | trivial), (show 270 < nc by omega)⟩, ⟨⟨(by first | rfl | trivial), (show 271 < nc by omega), (vp_in_iff.mpr (by decide))⟩, ⟨q.1, fun c1 => ⟨⟨(by first | rfl | trivial), (show 270 < nc by omega)⟩, ⟨Nat.le_of_ble_eq_true rfl, Nat.le_of_ble_eq_true rfl, (q.2 c1)⟩⟩⟩⟩⟩
set_option maxRecDepth 100000 in
theorem go_X9_asNow_24 {nc : Nat} {C : tf_C} {Q : tf_Q} {h : LH} (hn : 297 ≤ nc) {x1 : Int32} {y0 ny0 : Nat} {y1 : Int32} {y2 : Int32} (Ky0_0 : tf_K y0 = 8) (Ny0_0 : tf_N y0 = ny0) (By0 : y0 < nc) (q : (y2 = (1 : Int32) → lx_X9_asNow nc C Q 38 [.ref (270), .int (x1)] [.int (0), .int (y1), .ref (y0)] h) ∧ (¬ y2 = (1 : Int32) → lx_X9_asNow nc C Q 32 [.ref (270), .int (x1)] [.int (y1), .ref (y0)] h)) : lx_X9_asNow nc C Q 24 [.ref (270), .int (x1)] [.int (y2), .int (y1), .ref (y0)] h := by
  refine tf_LW_go ?_
  show (y2 = (1 : Int32) → lx_X9_asNow nc C Q 38 [.ref (270), .int (x1)] [.int (0), .int (y1), .ref (y0)] h) ∧ (¬ y2 = (1 : Int32) → lx_X9_asNow nc C Q 32 [.ref (270), .int (x1)] [.int (y1), .ref (y0)] h)
  try simp only [Ny0_0]
  exact ⟨fun c1 => (q.1 c1), q.2⟩
set_option maxRecDepth 100000 in
theorem go_X9_asNow_32 {nc : Nat} {C : tf_C} {Q : tf_Q} {h : LH} (hn : 297 ≤ nc) {x1 : Int32} {y0 ny0 : Nat} {y1 : Int32} (Ky0_0 : tf_K y0 = 8) (Ny0_0 : tf_N y0 = ny0) (By0 : y0 < nc) (q : C 3 [.ref (270), .int (x1), .int (2)] h (fun r g => lx_X9_asNow nc C Q 38 [.ref (270), .int (x1)] (r :: [.int (y1), .ref (y0)]) g)) : lx_X9_asNow nc C Q 32 [.ref (270), .int (x1)] [.int (y1), .ref (y0)] h := by
  refine tf_LW_go ?_
  show 3 ≤ 5 ∧ 2 ≤ 8 ∧ C 3 [.ref (270), .int (x1), .int (2)] h (fun r g => lx_X9_asNow nc C Q 38 [.ref (270), .int (x1)] (r :: [.int (y1), .ref (y0)]) g)
  try simp only [Ny0_0]
  exact ⟨Nat.le_of_ble_eq_true rfl, Nat.le_of_ble_eq_true rfl, q⟩
set_option maxRecDepth 100000 in
theorem go_X9_asNow_38 {nc : Nat} {C : tf_C} {Q : tf_Q} {h : LH} (hn : 297 ≤ nc) {x1 : Int32} {y0 ny0 : Nat} {y1 : Int32} {y2 : Int32} (Ky0_0 : tf_K y0 = 8) (Ny0_0 : tf_N y0 = ny0) (By0 : y0 < nc) (q : (vp_in y1 ny0) ∧ C 3 [.ref (270), .int (x1), .int (3)] (tf_up h.1 y0 (y1 : Int32).toNatClampNeg y2, h.2) (fun r g => lx_X9_asNow nc C Q 50 [.ref (270), .int (x1)] (r :: [.int (x1), .ref (292)]) g)) : lx_X9_asNow nc C Q 38 [.ref (270), .int (x1)] [.int (y2), .int (y1), .ref (y0)] h := by
  refine tf_LW_go ?_
  show (tf_K y0 = 8 ∧ y0 < nc ∧ vp_in y1 (tf_N y0)) ∧ (tf_K 270 = 7 ∧ 270 < nc) ∧ 3 ≤ 5 ∧ 2 ≤ 8 ∧ C 3 [.ref (270), .int (x1), .int (3)] (tf_up h.1 y0 (y1 : Int32).toNatClampNeg y2, h.2) (fun r g => lx_X9_asNow nc C Q 50 [.ref (270), .int (x1)] (r :: [.int (x1), .ref (292)]) g)
  try simp only [Ny0_0]
  exact ⟨⟨Ky0_0, (show y0 < nc by omega), q.1⟩, ⟨⟨(by first | rfl | trivial), (show 270 < nc by omega)⟩, ⟨Nat.le_of_ble_eq_true rfl, Nat.le_of_ble_eq_true rfl, q.2⟩⟩⟩
set_option maxRecDepth 100000 in
theorem go_X9_asNow_50 {nc : Nat} {C : tf_C} {Q : tf_Q} {h : LH} (hn : 297 ≤ nc) {x1 : Int32} {y0 ny0 : Nat} {y1 : Int32} {y2 : Int32} (Ky0_0 : tf_K y0 = 8) (Ny0_0 : tf_N y0 = ny0) (By0 : y0 < nc) (q : (vp_in y1 ny0) ∧ lx_X9_asNow nc C Q 2 [.ref (270), .int (x1 + 1)] [] (tf_up h.1 y0 (y1 : Int32).toNatClampNeg y2, h.2)) : lx_X9_asNow nc C Q 50 [.ref (270), .int (x1)] [.int (y2), .int (y1), .ref (y0)] h := by
  refine tf_LW_go ?_
  show (tf_K y0 = 8 ∧ y0 < nc ∧ vp_in y1 (tf_N y0)) ∧ lx_X9_asNow nc C Q 2 [.ref (270), .int (x1 + 1)] [] (tf_up h.1 y0 (y1 : Int32).toNatClampNeg y2, h.2)
  try simp only [Ny0_0]
  exact ⟨⟨Ky0_0, (show y0 < nc by omega), q.1⟩, q.2⟩
set_option maxRecDepth 100000 in
theorem go_X9_asNow_57 {nc : Nat} {C : tf_C} {Q : tf_Q} {h : LH} (hn : 297 ≤ nc) {x1 : Int32} (q : lx_X9_asNow nc C Q 59 [.ref (270), .int (0)] [] h) : lx_X9_asNow nc C Q 57 [.ref (270), .int (x1)] [] h := by
  refine tf_LW_go ?_
  exact q
set_option maxRecDepth 100000 in
theorem go_X9_asNow_59 {nc : Nat} {C : tf_C} {Q : tf_Q} {h : LH} (hn : 297 ≤ nc) {x1 : Int32} (q : ((h.1 271 (0 : Int32).toNatClampNeg) ≤ x1 → lx_X9_asNow nc C Q 90 [.ref (270), .int (x1)] [] h) ∧ (¬ (h.1 271 (0 : Int32).toNatClampNeg) ≤ x1 → (vp_in (44 + x1) 865) ∧ (vp_in x1 7) ∧ lx_X9_asNow nc C Q 59 [.ref (270), .int (x1 + 1)] [] (tf_up h.1 294 (x1 : Int32).toNatClampNeg (h.1 271 (44 + x1 : Int32).toNatClampNeg), h.2))) : lx_X9_asNow nc C Q 59 [.ref (270), .int (x1)] [] h := by
  refine tf_LW_go ?_
  exact ⟨⟨(by first | rfl | trivial), (show 270 < nc by omega)⟩, ⟨⟨(by first | rfl | trivial), (show 271 < nc by omega), (vp_in_iff.mpr (by decide))⟩, ⟨q.1, fun c1 => ⟨⟨(by first | rfl | trivial), (show 270 < nc by omega)⟩, ⟨⟨(by first | rfl | trivial), (show 270 < nc by omega)⟩, ⟨⟨(by first | rfl | trivial), (show 271 < nc by omega), (q.2 c1).1⟩, ⟨⟨(by first | rfl | trivial), (show 294 < nc by omega), (q.2 c1).2.1⟩, (q.2 c1).2.2⟩⟩⟩⟩⟩⟩⟩
set_option maxRecDepth 100000 in
theorem go_X9_asNow_90 {nc : Nat} {C : tf_C} {Q : tf_Q} {h : LH} (hn : 297 ≤ nc) {x1 : Int32} (q : Q tf_z h) : lx_X9_asNow nc C Q 90 [.ref (270), .int (x1)] [] h := by
  refine tf_LW_go ?_
  exact ⟨(by first | rfl | trivial), q⟩
abbrev lx_X9_relaxes (nc : Nat) (C : tf_C) (Q : tf_Q) : tf_X := tf_LW nc C (tf_F 7) (tf_M 7) (tf_I 7) (tf_Eh 96) 2 tb_X9_relaxes Q
set_option maxRecDepth 100000 in
theorem go_X9_relaxes_0 {nc : Nat} {C : tf_C} {Q : tf_Q} {h : LH} (hn : 297 ≤ nc) {x1 : Int32} {x2 : Int32} (q : (x2 = (0 : Int32) → (vp_in x1 14) ∧ (vp_in x1 14) ∧ lx_X9_relaxes nc C Q 26 [.ref (270), .int (x1), .int (x2), tf_z, tf_z, tf_z, tf_z] [.int ((h.1 291 (x1 : Int32).toNatClampNeg) - (h.1 293 (x1 : Int32).toNatClampNeg))] h) ∧ (¬ x2 = (0 : Int32) → lx_X9_relaxes nc C Q 20 [.ref (270), .int (x1), .int (x2), tf_z, tf_z, tf_z, tf_z] [] h)) : lx_X9_relaxes nc C Q 0 [.ref (270), .int (x1), .int (x2), tf_z, tf_z, tf_z, tf_z] [] h := by
  refine tf_LW_go ?_
  exact ⟨fun c1 => ⟨⟨(by first | rfl | trivial), (show 270 < nc by omega)⟩, ⟨⟨(by first | rfl | trivial), (show 291 < nc by omega), (q.1 c1).1⟩, ⟨⟨(by first | rfl | trivial), (show 270 < nc by omega)⟩, ⟨⟨(by first | rfl | trivial), (show 293 < nc by omega), (q.1 c1).2.1⟩, (q.1 c1).2.2⟩⟩⟩⟩, q.2⟩
theorem en_X9_relaxes {nc d : Nat} {Q : tf_Q} {h : LH} (hn : 297 ≤ nc) {x1 : Int32} {x2 : Int32} (q : lx_X9_relaxes nc (tf_Cd nc d) Q 0 [.ref (270), .int (x1), .int (x2), tf_z, tf_z, tf_z, tf_z] [] h) : tf_Cd nc (d + 1) 96 [.ref (270), .int (x1), .int (x2)] h Q := by
  exact ⟨⟨Nat.le_of_ble_eq_true rfl, Or.inr ⟨rfl, (show 270 < nc by omega)⟩⟩, q⟩
set_option maxRecDepth 100000 in
theorem go_X9_relaxes_20 {nc : Nat} {C : tf_C} {Q : tf_Q} {h : LH} (hn : 297 ≤ nc) {x1 : Int32} {x2 : Int32} (q : (vp_in x1 14) ∧ lx_X9_relaxes nc C Q 26 [.ref (270), .int (x1), .int (x2), tf_z, tf_z, tf_z, tf_z] [.int (h.1 293 (x1 : Int32).toNatClampNeg)] h) : lx_X9_relaxes nc C Q 20 [.ref (270), .int (x1), .int (x2), tf_z, tf_z, tf_z, tf_z] [] h := by
  refine tf_LW_go ?_
  exact ⟨⟨(by first | rfl | trivial), (show 270 < nc by omega)⟩, ⟨⟨(by first | rfl | trivial), (show 293 < nc by omega), q.1⟩, q.2⟩⟩
set_option maxRecDepth 100000 in
theorem go_X9_relaxes_26 {nc : Nat} {C : tf_C} {Q : tf_Q} {h : LH} (hn : 297 ≤ nc) {x1 : Int32} {x2 : Int32} {y0 : Int32} (q : (x2 = (0 : Int32) → lx_X9_relaxes nc C Q 38 [.ref (270), .int (x1), .int (x2), .int (y0), tf_z, tf_z, tf_z] [.int (0), .int (x1), .ref (270)] h) ∧ (¬ x2 = (0 : Int32) → lx_X9_relaxes nc C Q 37 [.ref (270), .int (x1), .int (x2), .int (y0), tf_z, tf_z, tf_z] [.int (x1), .ref (270)] h)) : lx_X9_relaxes nc C Q 26 [.ref (270), .int (x1), .int (x2), tf_z, tf_z, tf_z, tf_z] [.int (y0)] h := by
  refine tf_LW_go ?_
  exact ⟨fun c1 => (q.1 c1), q.2⟩
set_option maxRecDepth 100000 in
theorem go_X9_relaxes_37 {nc : Nat} {C : tf_C} {Q : tf_Q} {h : LH} (hn : 297 ≤ nc) {x1 : Int32} {x2 : Int32} {x3 : Int32} {y1 : Int32} (q : lx_X9_relaxes nc C Q 38 [.ref (270), .int (x1), .int (x2), .int (x3), tf_z, tf_z, tf_z] [.int (1), .int (y1), .ref (270)] h) : lx_X9_relaxes nc C Q 37 [.ref (270), .int (x1), .int (x2), .int (x3), tf_z, tf_z, tf_z] [.int (y1), .ref (270)] h := by
  refine tf_LW_go ?_
  exact q
set_option maxRecDepth 100000 in
theorem go_X9_relaxes_38 {nc : Nat} {C : tf_C} {Q : tf_Q} {h : LH} (hn : 297 ≤ nc) {x1 : Int32} {x2 : Int32} {x3 : Int32} {y1 : Int32} {y2 : Int32} (q : C 3 [.ref (270), .int (y1), .int (y2)] h (fun r g => lx_X9_relaxes nc C Q 41 [.ref (270), .int (x1), .int (x2), .int (x3), tf_z, tf_z, tf_z] (r :: []) g)) : lx_X9_relaxes nc C Q 38 [.ref (270), .int (x1), .int (x2), .int (x3), tf_z, tf_z, tf_z] [.int (y2), .int (y1), .ref (270)] h := by
  refine tf_LW_go ?_
  exact ⟨Nat.le_of_ble_eq_true rfl, Nat.le_of_ble_eq_true rfl, q⟩
set_option maxRecDepth 100000 in
theorem go_X9_relaxes_41 {nc : Nat} {C : tf_C} {Q : tf_Q} {h : LH} (hn : 297 ≤ nc) {x1 : Int32} {x2 : Int32} {x3 : Int32} {y0 : Int32} (q : (x2 = (0 : Int32) → lx_X9_relaxes nc C Q 54 [.ref (270), .int (x1), .int (x2), .int (x3), .int (y0), tf_z, tf_z] [.int (1), .int (x1), .ref (270)] h) ∧ (¬ x2 = (0 : Int32) → lx_X9_relaxes nc C Q 53 [.ref (270), .int (x1), .int (x2), .int (x3), .int (y0), tf_z, tf_z] [.int (x1), .ref (270)] h)) : lx_X9_relaxes nc C Q 41 [.ref (270), .int (x1), .int (x2), .int (x3), tf_z, tf_z, tf_z] [.int (y0)] h := by
  refine tf_LW_go ?_
  exact ⟨fun c1 => (q.1 c1), q.2⟩
set_option maxRecDepth 100000 in
theorem go_X9_relaxes_53 {nc : Nat} {C : tf_C} {Q : tf_Q} {h : LH} (hn : 297 ≤ nc) {x1 : Int32} {x2 : Int32} {x3 : Int32} {x4 : Int32} {y1 : Int32} (q : lx_X9_relaxes nc C Q 54 [.ref (270), .int (x1), .int (x2), .int (x3), .int (x4), tf_z, tf_z] [.int (0), .int (y1), .ref (270)] h) : lx_X9_relaxes nc C Q 53 [.ref (270), .int (x1), .int (x2), .int (x3), .int (x4), tf_z, tf_z] [.int (y1), .ref (270)] h := by
  refine tf_LW_go ?_
  exact q
set_option maxRecDepth 100000 in
theorem go_X9_relaxes_54 {nc : Nat} {C : tf_C} {Q : tf_Q} {h : LH} (hn : 297 ≤ nc) {x1 : Int32} {x2 : Int32} {x3 : Int32} {x4 : Int32} {y1 : Int32} {y2 : Int32} (q : C 3 [.ref (270), .int (y1), .int (y2)] h (fun r g => lx_X9_relaxes nc C Q 57 [.ref (270), .int (x1), .int (x2), .int (x3), .int (x4), tf_z, tf_z] (r :: []) g)) : lx_X9_relaxes nc C Q 54 [.ref (270), .int (x1), .int (x2), .int (x3), .int (x4), tf_z, tf_z] [.int (y2), .int (y1), .ref (270)] h := by
  refine tf_LW_go ?_
  exact ⟨Nat.le_of_ble_eq_true rfl, Nat.le_of_ble_eq_true rfl, q⟩
set_option maxRecDepth 100000 in
theorem go_X9_relaxes_57 {nc : Nat} {C : tf_C} {Q : tf_Q} {h : LH} (hn : 297 ≤ nc) {x1 : Int32} {x2 : Int32} {x3 : Int32} {x4 : Int32} {y0 : Int32} (q : (x2 = (0 : Int32) → (vp_in x1 14) ∧ lx_X9_relaxes nc C Q 79 [.ref (270), .int (x1), .int (x2), .int (x3), .int (x4), .int (y0), tf_z] [.int (h.1 292 (x1 : Int32).toNatClampNeg)] h) ∧ (¬ x2 = (0 : Int32) → lx_X9_relaxes nc C Q 72 [.ref (270), .int (x1), .int (x2), .int (x3), .int (x4), .int (y0), tf_z] [] h)) : lx_X9_relaxes nc C Q 57 [.ref (270), .int (x1), .int (x2), .int (x3), .int (x4), tf_z, tf_z] [.int (y0)] h := by
  refine tf_LW_go ?_
  exact ⟨fun c1 => ⟨⟨(by first | rfl | trivial), (show 270 < nc by omega)⟩, ⟨⟨(by first | rfl | trivial), (show 292 < nc by omega), (q.1 c1).1⟩, (q.1 c1).2⟩⟩, q.2⟩
set_option maxRecDepth 100000 in
theorem go_X9_relaxes_72 {nc : Nat} {C : tf_C} {Q : tf_Q} {h : LH} (hn : 297 ≤ nc) {x1 : Int32} {x2 : Int32} {x3 : Int32} {x4 : Int32} {x5 : Int32} (q : (vp_in x1 14) ∧ lx_X9_relaxes nc C Q 79 [.ref (270), .int (x1), .int (x2), .int (x3), .int (x4), .int (x5), tf_z] [.int (-(h.1 292 (x1 : Int32).toNatClampNeg))] h) : lx_X9_relaxes nc C Q 72 [.ref (270), .int (x1), .int (x2), .int (x3), .int (x4), .int (x5), tf_z] [] h := by
  refine tf_LW_go ?_
  exact ⟨⟨(by first | rfl | trivial), (show 270 < nc by omega)⟩, ⟨⟨(by first | rfl | trivial), (show 292 < nc by omega), q.1⟩, q.2⟩⟩
set_option maxRecDepth 100000 in
theorem go_X9_relaxes_79 {nc : Nat} {C : tf_C} {Q : tf_Q} {h : LH} (hn : 297 ≤ nc) {x1 : Int32} {x2 : Int32} {x3 : Int32} {x4 : Int32} {x5 : Int32} {y0 : Int32} (q : (x3 = (0 : Int32) → lx_X9_relaxes nc C Q 118 [.ref (270), .int (x1), .int (x2), .int (x3), .int (x4), .int (x5), .int (y0)] [] h) ∧ (¬ x3 = (0 : Int32) → (vp_in x4 7) ∧ ((h.1 295 (x4 : Int32).toNatClampNeg) = (1000000 : Int32) → lx_X9_relaxes nc C Q 118 [.ref (270), .int (x1), .int (x2), .int (x3), .int (x4), .int (x5), .int (y0)] [] h) ∧ (¬ (h.1 295 (x4 : Int32).toNatClampNeg) = (1000000 : Int32) → (vp_in x4 7) ∧ (vp_in x5 7) ∧ (((h.1 295 (x4 : Int32).toNatClampNeg) + y0) < (h.1 295 (x5 : Int32).toNatClampNeg) → lx_X9_relaxes nc C Q 120 [.ref (270), .int (x1), .int (x2), .int (x3), .int (x4), .int (x5), .int (y0)] [] h) ∧ (¬ ((h.1 295 (x4 : Int32).toNatClampNeg) + y0) < (h.1 295 (x5 : Int32).toNatClampNeg) → lx_X9_relaxes nc C Q 118 [.ref (270), .int (x1), .int (x2), .int (x3), .int (x4), .int (x5), .int (y0)] [] h)))) : lx_X9_relaxes nc C Q 79 [.ref (270), .int (x1), .int (x2), .int (x3), .int (x4), .int (x5), tf_z] [.int (y0)] h := by
  refine tf_LW_go ?_
  exact ⟨q.1, fun c3 => ⟨⟨(by first | rfl | trivial), (show 270 < nc by omega)⟩, ⟨⟨(by first | rfl | trivial), (show 295 < nc by omega), (q.2 c3).1⟩, ⟨(q.2 c3).2.1, fun c2 => ⟨⟨(by first | rfl | trivial), (show 270 < nc by omega)⟩, ⟨⟨(by first | rfl | trivial), (show 295 < nc by omega), ((q.2 c3).2.2 c2).1⟩, ⟨⟨(by first | rfl | trivial), (show 270 < nc by omega)⟩, ⟨⟨(by first | rfl | trivial), (show 295 < nc by omega), ((q.2 c3).2.2 c2).2.1⟩, ⟨((q.2 c3).2.2 c2).2.2.1, fun c1 => (((q.2 c3).2.2 c2).2.2.2 c1)⟩⟩⟩⟩⟩⟩⟩⟩⟩
set_option maxRecDepth 100000 in
theorem go_X9_relaxes_118 {nc : Nat} {C : tf_C} {Q : tf_Q} {h : LH} (hn : 297 ≤ nc) {x1 : Int32} {x2 : Int32} {x3 : Int32} {x4 : Int32} {x5 : Int32} {x6 : Int32} (q : Q (.int (0)) h) : lx_X9_relaxes nc C Q 118 [.ref (270), .int (x1), .int (x2), .int (x3), .int (x4), .int (x5), .int (x6)] [] h := by
  refine tf_LW_go ?_
  exact ⟨(by first | rfl | trivial), q⟩
set_option maxRecDepth 100000 in
theorem go_X9_relaxes_120 {nc : Nat} {C : tf_C} {Q : tf_Q} {h : LH} (hn : 297 ≤ nc) {x1 : Int32} {x2 : Int32} {x3 : Int32} {x4 : Int32} {x5 : Int32} {x6 : Int32} (q : (vp_in x4 7) ∧ (vp_in x5 7) ∧ (vp_in x5 7) ∧ Q (.int (1)) (tf_up (tf_up h.1 295 (x5 : Int32).toNatClampNeg ((h.1 295 (x4 : Int32).toNatClampNeg) + x6)) 296 (x5 : Int32).toNatClampNeg ((2 * x1) + x2), h.2)) : lx_X9_relaxes nc C Q 120 [.ref (270), .int (x1), .int (x2), .int (x3), .int (x4), .int (x5), .int (x6)] [] h := by
  refine tf_LW_go ?_
  exact ⟨⟨(by first | rfl | trivial), (show 270 < nc by omega)⟩, ⟨⟨(by first | rfl | trivial), (show 270 < nc by omega)⟩, ⟨⟨(by first | rfl | trivial), (show 295 < nc by omega), q.1⟩, ⟨⟨(by first | rfl | trivial), (show 295 < nc by omega), q.2.1⟩, ⟨⟨(by first | rfl | trivial), (show 270 < nc by omega)⟩, ⟨⟨(by first | rfl | trivial), (show 296 < nc by omega), q.2.2.1⟩, ⟨(by first | rfl | trivial), q.2.2.2⟩⟩⟩⟩⟩⟩⟩
abbrev lx_X9_laysCheapest (nc : Nat) (C : tf_C) (Q : tf_Q) : tf_X := tf_LW nc C (tf_F 7) (tf_M 7) (tf_I 7) (tf_Eh 97) 0 tb_X9_laysCheapest Q
set_option maxRecDepth 100000 in
theorem go_X9_laysCheapest_0 {nc : Nat} {C : tf_C} {Q : tf_Q} {h : LH} (hn : 297 ≤ nc) (q : lx_X9_laysCheapest nc C Q 2 [.ref (270), .int (0), tf_z, tf_z] [] h) : lx_X9_laysCheapest nc C Q 0 [.ref (270), tf_z, tf_z, tf_z] [] h := by
  refine tf_LW_go ?_
  exact q
theorem en_X9_laysCheapest {nc d : Nat} {Q : tf_Q} {h : LH} (hn : 297 ≤ nc) (q : lx_X9_laysCheapest nc (tf_Cd nc d) Q 0 [.ref (270), tf_z, tf_z, tf_z] [] h) : tf_Cd nc (d + 1) 97 [.ref (270)] h Q := by
  exact ⟨⟨Nat.le_of_ble_eq_true rfl, Or.inr ⟨rfl, (show 270 < nc by omega)⟩⟩, q⟩
set_option maxRecDepth 100000 in
theorem go_X9_laysCheapest_2 {nc : Nat} {C : tf_C} {Q : tf_Q} {h : LH} (hn : 297 ≤ nc) {x1 : Int32} (q : ((h.1 271 (0 : Int32).toNatClampNeg) ≤ x1 → lx_X9_laysCheapest nc C Q 47 [.ref (270), .int (x1), tf_z, tf_z] [] h) ∧ (¬ (h.1 271 (0 : Int32).toNatClampNeg) ≤ x1 → (vp_in x1 7) ∧ ((h.1 294 (x1 : Int32).toNatClampNeg) ≤ (0 : Int32) → lx_X9_laysCheapest nc C Q 30 [.ref (270), .int (x1), tf_z, tf_z] [.int (x1), .ref (295)] h) ∧ (¬ (h.1 294 (x1 : Int32).toNatClampNeg) ≤ (0 : Int32) → lx_X9_laysCheapest nc C Q 33 [.ref (270), .int (x1), tf_z, tf_z] [.int (0), .int (x1), .ref (295)] h))) : lx_X9_laysCheapest nc C Q 2 [.ref (270), .int (x1), tf_z, tf_z] [] h := by
  refine tf_LW_go ?_
  exact ⟨⟨(by first | rfl | trivial), (show 270 < nc by omega)⟩, ⟨⟨(by first | rfl | trivial), (show 271 < nc by omega), (vp_in_iff.mpr (by decide))⟩, ⟨q.1, fun c2 => ⟨⟨(by first | rfl | trivial), (show 270 < nc by omega)⟩, ⟨⟨(by first | rfl | trivial), (show 270 < nc by omega)⟩, ⟨⟨(by first | rfl | trivial), (show 294 < nc by omega), (q.2 c2).1⟩, ⟨(q.2 c2).2.1, fun c1 => ((q.2 c2).2.2 c1)⟩⟩⟩⟩⟩⟩⟩
set_option maxRecDepth 100000 in
theorem go_X9_laysCheapest_30 {nc : Nat} {C : tf_C} {Q : tf_Q} {h : LH} (hn : 297 ≤ nc) {x1 : Int32} {y0 ny0 : Nat} {y1 : Int32} (Ky0_0 : tf_K y0 = 8) (Ny0_0 : tf_N y0 = ny0) (By0 : y0 < nc) (q : lx_X9_laysCheapest nc C Q 33 [.ref (270), .int (x1), tf_z, tf_z] [.int (1000000), .int (y1), .ref (y0)] h) : lx_X9_laysCheapest nc C Q 30 [.ref (270), .int (x1), tf_z, tf_z] [.int (y1), .ref (y0)] h := by
  refine tf_LW_go ?_
  show lx_X9_laysCheapest nc C Q 33 [.ref (270), .int (x1), tf_z, tf_z] [.int (1000000), .int (y1), .ref (y0)] h
  try simp only [Ny0_0]
  exact q
set_option maxRecDepth 100000 in
theorem go_X9_laysCheapest_33 {nc : Nat} {C : tf_C} {Q : tf_Q} {h : LH} (hn : 297 ≤ nc) {x1 : Int32} {y0 ny0 : Nat} {y1 : Int32} {y2 : Int32} (Ky0_0 : tf_K y0 = 8) (Ny0_0 : tf_N y0 = ny0) (By0 : y0 < nc) (q : (vp_in y1 ny0) ∧ (vp_in x1 7) ∧ lx_X9_laysCheapest nc C Q 2 [.ref (270), .int (x1 + 1), tf_z, tf_z] [] (tf_up (tf_up h.1 y0 (y1 : Int32).toNatClampNeg y2) 296 (x1 : Int32).toNatClampNeg (-1), h.2)) : lx_X9_laysCheapest nc C Q 33 [.ref (270), .int (x1), tf_z, tf_z] [.int (y2), .int (y1), .ref (y0)] h := by
  refine tf_LW_go ?_
  show (tf_K y0 = 8 ∧ y0 < nc ∧ vp_in y1 (tf_N y0)) ∧ (tf_K 270 = 7 ∧ 270 < nc) ∧ (tf_K 296 = 8 ∧ 296 < nc ∧ vp_in x1 7) ∧ lx_X9_laysCheapest nc C Q 2 [.ref (270), .int (x1 + 1), tf_z, tf_z] [] (tf_up (tf_up h.1 y0 (y1 : Int32).toNatClampNeg y2) 296 (x1 : Int32).toNatClampNeg (-1), h.2)
  try simp only [Ny0_0]
  exact ⟨⟨Ky0_0, (show y0 < nc by omega), q.1⟩, ⟨⟨(by first | rfl | trivial), (show 270 < nc by omega)⟩, ⟨⟨(by first | rfl | trivial), (show 296 < nc by omega), q.2.1⟩, q.2.2⟩⟩⟩
set_option maxRecDepth 100000 in
theorem go_X9_laysCheapest_47 {nc : Nat} {C : tf_C} {Q : tf_Q} {h : LH} (hn : 297 ≤ nc) {x1 : Int32} (q : lx_X9_laysCheapest nc C Q 51 [.ref (270), .int (1), .int (0), tf_z] [] h) : lx_X9_laysCheapest nc C Q 47 [.ref (270), .int (x1), tf_z, tf_z] [] h := by
  refine tf_LW_go ?_
  exact q
set_option maxRecDepth 100000 in
theorem go_X9_laysCheapest_51 {nc : Nat} {C : tf_C} {Q : tf_Q} {h : LH} (hn : 297 ≤ nc) {x1 : Int32} {x2 : Int32} {x3 : Value} (q : ((7 : Int32) < x2 → lx_X9_laysCheapest nc C Q 102 [.ref (270), .int (x1), .int (x2), x3] [] h) ∧ (¬ (7 : Int32) < x2 → (x1 = (0 : Int32) → lx_X9_laysCheapest nc C Q 102 [.ref (270), .int (x1), .int (x2), x3] [] h) ∧ (¬ x1 = (0 : Int32) → lx_X9_laysCheapest nc C Q 65 [.ref (270), .int (0), .int (x2), .int (0)] [] h))) : lx_X9_laysCheapest nc C Q 51 [.ref (270), .int (x1), .int (x2), x3] [] h := by
  refine tf_LW_go ?_
  exact ⟨q.1, fun c2 => ⟨(q.2 c2).1, fun c1 => ((q.2 c2).2 c1)⟩⟩
set_option maxRecDepth 100000 in
theorem go_X9_laysCheapest_65 {nc : Nat} {C : tf_C} {Q : tf_Q} {h : LH} (hn : 297 ≤ nc) {x1 : Int32} {x2 : Int32} {x3 : Int32} (q : ((2 * (h.1 271 (1 : Int32).toNatClampNeg)) ≤ x3 → lx_X9_laysCheapest nc C Q 96 [.ref (270), .int (x1), .int (x2), .int (x3)] [] h) ∧ (¬ (2 * (h.1 271 (1 : Int32).toNatClampNeg)) ≤ x3 → C 96 [.ref (270), .int (x3 / 2), .int (x3 - x3 / 2 * 2)] h (fun r g => lx_X9_laysCheapest nc C Q 88 [.ref (270), .int (x1), .int (x2), .int (x3)] (r :: [.int (x1)]) g))) : lx_X9_laysCheapest nc C Q 65 [.ref (270), .int (x1), .int (x2), .int (x3)] [] h := by
  refine tf_LW_go ?_
  exact ⟨⟨(by first | rfl | trivial), (show 270 < nc by omega)⟩, ⟨⟨(by first | rfl | trivial), (show 271 < nc by omega), (vp_in_iff.mpr (by decide))⟩, ⟨q.1, fun c1 => ⟨(by decide), ⟨(by decide), ⟨Nat.le_of_ble_eq_true rfl, Nat.le_of_ble_eq_true rfl, (q.2 c1)⟩⟩⟩⟩⟩⟩
set_option maxRecDepth 100000 in
theorem go_X9_laysCheapest_88 {nc : Nat} {C : tf_C} {Q : tf_Q} {h : LH} (hn : 297 ≤ nc) {x1 : Int32} {x2 : Int32} {x3 : Int32} {y0 : Int32} {y1 : Int32} (q : lx_X9_laysCheapest nc C Q 65 [.ref (270), .int (y0 ||| y1), .int (x2), .int (x3 + 1)] [] h) : lx_X9_laysCheapest nc C Q 88 [.ref (270), .int (x1), .int (x2), .int (x3)] [.int (y1), .int (y0)] h := by
  refine tf_LW_go ?_
  exact q
set_option maxRecDepth 100000 in
theorem go_X9_laysCheapest_96 {nc : Nat} {C : tf_C} {Q : tf_Q} {h : LH} (hn : 297 ≤ nc) {x1 : Int32} {x2 : Int32} {x3 : Int32} (q : lx_X9_laysCheapest nc C Q 51 [.ref (270), .int (x1), .int (x2 + 1), .int (x3)] [] h) : lx_X9_laysCheapest nc C Q 96 [.ref (270), .int (x1), .int (x2), .int (x3)] [] h := by
  refine tf_LW_go ?_
  exact q
set_option maxRecDepth 100000 in
theorem go_X9_laysCheapest_102 {nc : Nat} {C : tf_C} {Q : tf_Q} {h : LH} (hn : 297 ≤ nc) {x1 : Int32} {x2 : Int32} {x3 : Value} (q : Q tf_z h) : lx_X9_laysCheapest nc C Q 102 [.ref (270), .int (x1), .int (x2), x3] [] h := by
  refine tf_LW_go ?_
  exact ⟨(by first | rfl | trivial), q⟩
abbrev lx_X9_wanting (nc : Nat) (C : tf_C) (Q : tf_Q) : tf_X := tf_LW nc C (tf_F 7) (tf_M 7) (tf_I 7) (tf_Eh 98) 1 tb_X9_wanting Q
set_option maxRecDepth 100000 in
theorem go_X9_wanting_0 {nc : Nat} {C : tf_C} {Q : tf_Q} {h : LH} (hn : 297 ≤ nc) (q : lx_X9_wanting nc C Q 4 [.ref (270), .int ((-1)), .int (0)] [] h) : lx_X9_wanting nc C Q 0 [.ref (270), tf_z, tf_z] [] h := by
  refine tf_LW_go ?_
  exact q
theorem en_X9_wanting {nc d : Nat} {Q : tf_Q} {h : LH} (hn : 297 ≤ nc) (q : lx_X9_wanting nc (tf_Cd nc d) Q 0 [.ref (270), tf_z, tf_z] [] h) : tf_Cd nc (d + 1) 98 [.ref (270)] h Q := by
  exact ⟨⟨Nat.le_of_ble_eq_true rfl, Or.inr ⟨rfl, (show 270 < nc by omega)⟩⟩, q⟩
set_option maxRecDepth 100000 in
theorem go_X9_wanting_4 {nc : Nat} {C : tf_C} {Q : tf_Q} {h : LH} (hn : 297 ≤ nc) {x1 : Int32} {x2 : Int32} (q : ((h.1 271 (0 : Int32).toNatClampNeg) ≤ x2 → lx_X9_wanting nc C Q 63 [.ref (270), .int (x1), .int (x2)] [] h) ∧ (¬ (h.1 271 (0 : Int32).toNatClampNeg) ≤ x2 → (vp_in x2 7) ∧ ((0 : Int32) ≤ (h.1 294 (x2 : Int32).toNatClampNeg) → lx_X9_wanting nc C Q 57 [.ref (270), .int (x1), .int (x2)] [] h) ∧ (¬ (0 : Int32) ≤ (h.1 294 (x2 : Int32).toNatClampNeg) → (vp_in x2 7) ∧ ((1000000 : Int32) ≤ (h.1 295 (x2 : Int32).toNatClampNeg) → lx_X9_wanting nc C Q 57 [.ref (270), .int (x1), .int (x2)] [] h) ∧ (¬ (1000000 : Int32) ≤ (h.1 295 (x2 : Int32).toNatClampNeg) → (x1 = ((-1) : Int32) → lx_X9_wanting nc C Q 55 [.ref (270), .int (x1), .int (x2)] [] h) ∧ (¬ x1 = ((-1) : Int32) → (vp_in x2 7) ∧ (vp_in x1 7) ∧ ((h.1 295 (x1 : Int32).toNatClampNeg) ≤ (h.1 295 (x2 : Int32).toNatClampNeg) → lx_X9_wanting nc C Q 57 [.ref (270), .int (x1), .int (x2)] [] h) ∧ (¬ (h.1 295 (x1 : Int32).toNatClampNeg) ≤ (h.1 295 (x2 : Int32).toNatClampNeg) → lx_X9_wanting nc C Q 55 [.ref (270), .int (x1), .int (x2)] [] h)))))) : lx_X9_wanting nc C Q 4 [.ref (270), .int (x1), .int (x2)] [] h := by
  refine tf_LW_go ?_
  exact ⟨⟨(by first | rfl | trivial), (show 270 < nc by omega)⟩, ⟨⟨(by first | rfl | trivial), (show 271 < nc by omega), (vp_in_iff.mpr (by decide))⟩, ⟨q.1, fun c5 => ⟨⟨(by first | rfl | trivial), (show 270 < nc by omega)⟩, ⟨⟨(by first | rfl | trivial), (show 294 < nc by omega), (q.2 c5).1⟩, ⟨(q.2 c5).2.1, fun c4 => ⟨⟨(by first | rfl | trivial), (show 270 < nc by omega)⟩, ⟨⟨(by first | rfl | trivial), (show 295 < nc by omega), ((q.2 c5).2.2 c4).1⟩, ⟨((q.2 c5).2.2 c4).2.1, fun c3 => ⟨(((q.2 c5).2.2 c4).2.2 c3).1, fun c2 => ⟨⟨(by first | rfl | trivial), (show 270 < nc by omega)⟩, ⟨⟨(by first | rfl | trivial), (show 295 < nc by omega), ((((q.2 c5).2.2 c4).2.2 c3).2 c2).1⟩, ⟨⟨(by first | rfl | trivial), (show 270 < nc by omega)⟩, ⟨⟨(by first | rfl | trivial), (show 295 < nc by omega), ((((q.2 c5).2.2 c4).2.2 c3).2 c2).2.1⟩, ⟨((((q.2 c5).2.2 c4).2.2 c3).2 c2).2.2.1, fun c1 => (((((q.2 c5).2.2 c4).2.2 c3).2 c2).2.2.2 c1)⟩⟩⟩⟩⟩⟩⟩⟩⟩⟩⟩⟩⟩⟩⟩
set_option maxRecDepth 100000 in
theorem go_X9_wanting_55 {nc : Nat} {C : tf_C} {Q : tf_Q} {h : LH} (hn : 297 ≤ nc) {x1 : Int32} {x2 : Int32} (q : lx_X9_wanting nc C Q 57 [.ref (270), .int (x2), .int (x2)] [] h) : lx_X9_wanting nc C Q 55 [.ref (270), .int (x1), .int (x2)] [] h := by
  refine tf_LW_go ?_
  exact q
set_option maxRecDepth 100000 in
theorem go_X9_wanting_57 {nc : Nat} {C : tf_C} {Q : tf_Q} {h : LH} (hn : 297 ≤ nc) {x1 : Int32} {x2 : Int32} (q : lx_X9_wanting nc C Q 4 [.ref (270), .int (x1), .int (x2 + 1)] [] h) : lx_X9_wanting nc C Q 57 [.ref (270), .int (x1), .int (x2)] [] h := by
  refine tf_LW_go ?_
  exact q
set_option maxRecDepth 100000 in
theorem go_X9_wanting_63 {nc : Nat} {C : tf_C} {Q : tf_Q} {h : LH} (hn : 297 ≤ nc) {x1 : Int32} {x2 : Int32} (q : Q (.int (x1)) h) : lx_X9_wanting nc C Q 63 [.ref (270), .int (x1), .int (x2)] [] h := by
  refine tf_LW_go ?_
  exact ⟨(by first | trivial | rfl), q⟩
abbrev lx_X9_backBy (nc : Nat) (C : tf_C) (Q : tf_Q) : tf_X := tf_LW nc C (tf_F 7) (tf_M 7) (tf_I 7) (tf_Eh 99) 1 tb_X9_backBy Q
set_option maxRecDepth 100000 in
theorem go_X9_backBy_0 {nc : Nat} {C : tf_C} {Q : tf_Q} {h : LH} (hn : 297 ≤ nc) {x1 : Int32} (q : (vp_in x1 7) ∧ (vp_in x1 7) ∧ (((h.1 296 (x1 : Int32).toNatClampNeg) - (h.1 296 (x1 : Int32).toNatClampNeg) / 2 * 2) = (0 : Int32) → lx_X9_backBy nc C Q 25 [.ref (270), .int (x1)] [.int (0), .int ((h.1 296 (x1 : Int32).toNatClampNeg) / 2), .ref (270)] h) ∧ (¬ ((h.1 296 (x1 : Int32).toNatClampNeg) - (h.1 296 (x1 : Int32).toNatClampNeg) / 2 * 2) = (0 : Int32) → lx_X9_backBy nc C Q 24 [.ref (270), .int (x1)] [.int ((h.1 296 (x1 : Int32).toNatClampNeg) / 2), .ref (270)] h)) : lx_X9_backBy nc C Q 0 [.ref (270), .int (x1)] [] h := by
  refine tf_LW_go ?_
  exact ⟨⟨(by first | rfl | trivial), (show 270 < nc by omega)⟩, ⟨⟨(by first | rfl | trivial), (show 296 < nc by omega), q.1⟩, ⟨(by decide), ⟨⟨(by first | rfl | trivial), (show 270 < nc by omega)⟩, ⟨⟨(by first | rfl | trivial), (show 296 < nc by omega), q.2.1⟩, ⟨(by decide), ⟨fun c1 => (q.2.2.1 c1), q.2.2.2⟩⟩⟩⟩⟩⟩⟩
theorem en_X9_backBy {nc d : Nat} {Q : tf_Q} {h : LH} (hn : 297 ≤ nc) {x1 : Int32} (q : lx_X9_backBy nc (tf_Cd nc d) Q 0 [.ref (270), .int (x1)] [] h) : tf_Cd nc (d + 1) 99 [.ref (270), .int (x1)] h Q := by
  exact ⟨⟨Nat.le_of_ble_eq_true rfl, Or.inr ⟨rfl, (show 270 < nc by omega)⟩⟩, q⟩
set_option maxRecDepth 100000 in
theorem go_X9_backBy_24 {nc : Nat} {C : tf_C} {Q : tf_Q} {h : LH} (hn : 297 ≤ nc) {x1 : Int32} {y1 : Int32} (q : lx_X9_backBy nc C Q 25 [.ref (270), .int (x1)] [.int (1), .int (y1), .ref (270)] h) : lx_X9_backBy nc C Q 24 [.ref (270), .int (x1)] [.int (y1), .ref (270)] h := by
  refine tf_LW_go ?_
  exact q
set_option maxRecDepth 100000 in
theorem go_X9_backBy_25 {nc : Nat} {C : tf_C} {Q : tf_Q} {h : LH} (hn : 297 ≤ nc) {x1 : Int32} {y1 : Int32} {y2 : Int32} (q : C 3 [.ref (270), .int (y1), .int (y2)] h (fun r g => lx_X9_backBy nc C Q 28 [.ref (270), .int (x1)] (r :: []) g)) : lx_X9_backBy nc C Q 25 [.ref (270), .int (x1)] [.int (y2), .int (y1), .ref (270)] h := by
  refine tf_LW_go ?_
  exact ⟨Nat.le_of_ble_eq_true rfl, Nat.le_of_ble_eq_true rfl, q⟩
set_option maxRecDepth 100000 in
theorem go_X9_backBy_28 {nc : Nat} {C : tf_C} {Q : tf_Q} {h : LH} (hn : 297 ≤ nc) {x1 : Int32} {y0 : Int32} (q : Q (.int (y0)) h) : lx_X9_backBy nc C Q 28 [.ref (270), .int (x1)] [.int (y0)] h := by
  refine tf_LW_go ?_
  exact ⟨(by first | trivial | rfl), q⟩
abbrev lx_X9_sendsTo (nc : Nat) (C : tf_C) (Q : tf_Q) : tf_X := tf_LW nc C (tf_F 7) (tf_M 7) (tf_I 7) (tf_Eh 100) 0 tb_X9_sendsTo Q
set_option maxRecDepth 100000 in
theorem go_X9_sendsTo_0 {nc : Nat} {C : tf_C} {Q : tf_Q} {h : LH} (hn : 297 ≤ nc) {x1 : Int32} (q : (vp_in x1 7) ∧ lx_X9_sendsTo nc C Q 10 [.ref (270), .int (x1), .int (-(h.1 294 (x1 : Int32).toNatClampNeg)), .int (x1), tf_z] [] h) : lx_X9_sendsTo nc C Q 0 [.ref (270), .int (x1), tf_z, tf_z, tf_z] [] h := by
  refine tf_LW_go ?_
  exact ⟨⟨(by first | rfl | trivial), (show 270 < nc by omega)⟩, ⟨⟨(by first | rfl | trivial), (show 294 < nc by omega), q.1⟩, q.2⟩⟩
theorem en_X9_sendsTo {nc d : Nat} {Q : tf_Q} {h : LH} (hn : 297 ≤ nc) {x1 : Int32} (q : lx_X9_sendsTo nc (tf_Cd nc d) Q 0 [.ref (270), .int (x1), tf_z, tf_z, tf_z] [] h) : tf_Cd nc (d + 1) 100 [.ref (270), .int (x1)] h Q := by
  exact ⟨⟨Nat.le_of_ble_eq_true rfl, Or.inr ⟨rfl, (show 270 < nc by omega)⟩⟩, q⟩
set_option maxRecDepth 100000 in
theorem go_X9_sendsTo_10 {nc : Nat} {C : tf_C} {Q : tf_Q} {h : LH} (hn : 297 ≤ nc) {x1 : Int32} {x2 : Int32} {x3 : Int32} {x4 : Value} (q : (vp_in x3 7) ∧ ((h.1 296 (x3 : Int32).toNatClampNeg) = ((-1) : Int32) → lx_X9_sendsTo nc C Q 80 [.ref (270), .int (x1), .int (x2), .int (x3), x4] [] h) ∧ (¬ (h.1 296 (x3 : Int32).toNatClampNeg) = ((-1) : Int32) → (vp_in x3 7) ∧ (vp_in x3 7) ∧ (((h.1 296 (x3 : Int32).toNatClampNeg) - (h.1 296 (x3 : Int32).toNatClampNeg) / 2 * 2) = (0 : Int32) → (vp_in ((h.1 296 (x3 : Int32).toNatClampNeg) / 2) 14) ∧ (vp_in ((h.1 296 (x3 : Int32).toNatClampNeg) / 2) 14) ∧ lx_X9_sendsTo nc C Q 67 [.ref (270), .int (x1), .int (x2), .int (x3), .int ((h.1 296 (x3 : Int32).toNatClampNeg) / 2)] [.int ((h.1 291 ((h.1 296 (x3 : Int32).toNatClampNeg) / 2 : Int32).toNatClampNeg) - (h.1 293 ((h.1 296 (x3 : Int32).toNatClampNeg) / 2 : Int32).toNatClampNeg)), .int (x2)] h) ∧ (¬ ((h.1 296 (x3 : Int32).toNatClampNeg) - (h.1 296 (x3 : Int32).toNatClampNeg) / 2 * 2) = (0 : Int32) → lx_X9_sendsTo nc C Q 60 [.ref (270), .int (x1), .int (x2), .int (x3), .int ((h.1 296 (x3 : Int32).toNatClampNeg) / 2)] [.int (x2)] h))) : lx_X9_sendsTo nc C Q 10 [.ref (270), .int (x1), .int (x2), .int (x3), x4] [] h := by
  refine tf_LW_go ?_
  exact ⟨⟨(by first | rfl | trivial), (show 270 < nc by omega)⟩, ⟨⟨(by first | rfl | trivial), (show 296 < nc by omega), q.1⟩, ⟨q.2.1, fun c2 => ⟨⟨(by first | rfl | trivial), (show 270 < nc by omega)⟩, ⟨⟨(by first | rfl | trivial), (show 296 < nc by omega), (q.2.2 c2).1⟩, ⟨(by decide), ⟨⟨(by first | rfl | trivial), (show 270 < nc by omega)⟩, ⟨⟨(by first | rfl | trivial), (show 296 < nc by omega), (q.2.2 c2).2.1⟩, ⟨(by decide), ⟨fun c1 => ⟨⟨(by first | rfl | trivial), (show 270 < nc by omega)⟩, ⟨⟨(by first | rfl | trivial), (show 291 < nc by omega), ((q.2.2 c2).2.2.1 c1).1⟩, ⟨⟨(by first | rfl | trivial), (show 270 < nc by omega)⟩, ⟨⟨(by first | rfl | trivial), (show 293 < nc by omega), ((q.2.2 c2).2.2.1 c1).2.1⟩, ((q.2.2 c2).2.2.1 c1).2.2⟩⟩⟩⟩, (q.2.2 c2).2.2.2⟩⟩⟩⟩⟩⟩⟩⟩⟩⟩
set_option maxRecDepth 100000 in
theorem go_X9_sendsTo_60 {nc : Nat} {C : tf_C} {Q : tf_Q} {h : LH} (hn : 297 ≤ nc) {x1 : Int32} {x2 : Int32} {x3 : Int32} {x4 : Int32} {y0 : Int32} (q : (vp_in x4 14) ∧ lx_X9_sendsTo nc C Q 67 [.ref (270), .int (x1), .int (x2), .int (x3), .int (x4)] [.int (h.1 293 (x4 : Int32).toNatClampNeg), .int (y0)] h) : lx_X9_sendsTo nc C Q 60 [.ref (270), .int (x1), .int (x2), .int (x3), .int (x4)] [.int (y0)] h := by
  refine tf_LW_go ?_
  exact ⟨⟨(by first | rfl | trivial), (show 270 < nc by omega)⟩, ⟨⟨(by first | rfl | trivial), (show 293 < nc by omega), q.1⟩, q.2⟩⟩
set_option maxRecDepth 100000 in
theorem go_X9_sendsTo_67 {nc : Nat} {C : tf_C} {Q : tf_Q} {h : LH} (hn : 297 ≤ nc) {x1 : Int32} {x2 : Int32} {x3 : Int32} {x4 : Int32} {y0 : Int32} {y1 : Int32} (q : C 1 [.int (y0), .int (y1)] h (fun r g => lx_X9_sendsTo nc C Q 70 [.ref (270), .int (x1), .int (x2), .int (x3), .int (x4)] (r :: []) g)) : lx_X9_sendsTo nc C Q 67 [.ref (270), .int (x1), .int (x2), .int (x3), .int (x4)] [.int (y1), .int (y0)] h := by
  refine tf_LW_go ?_
  exact ⟨Nat.le_of_ble_eq_true rfl, Nat.le_of_ble_eq_true rfl, q⟩
set_option maxRecDepth 100000 in
theorem go_X9_sendsTo_70 {nc : Nat} {C : tf_C} {Q : tf_Q} {h : LH} (hn : 297 ≤ nc) {x1 : Int32} {x2 : Int32} {x3 : Int32} {x4 : Int32} {y0 : Int32} (q : C 99 [.ref (270), .int (x3)] h (fun r g => lx_X9_sendsTo nc C Q 76 [.ref (270), .int (x1), .int (y0), .int (x3), .int (x4)] (r :: []) g)) : lx_X9_sendsTo nc C Q 70 [.ref (270), .int (x1), .int (x2), .int (x3), .int (x4)] [.int (y0)] h := by
  refine tf_LW_go ?_
  exact ⟨Nat.le_of_ble_eq_true rfl, Nat.le_of_ble_eq_true rfl, q⟩
set_option maxRecDepth 100000 in
theorem go_X9_sendsTo_76 {nc : Nat} {C : tf_C} {Q : tf_Q} {h : LH} (hn : 297 ≤ nc) {x1 : Int32} {x2 : Int32} {x3 : Int32} {x4 : Int32} {y0 : Int32} (q : lx_X9_sendsTo nc C Q 10 [.ref (270), .int (x1), .int (x2), .int (y0), .int (x4)] [] h) : lx_X9_sendsTo nc C Q 76 [.ref (270), .int (x1), .int (x2), .int (x3), .int (x4)] [.int (y0)] h := by
  refine tf_LW_go ?_
  exact q
set_option maxRecDepth 100000 in
theorem go_X9_sendsTo_80 {nc : Nat} {C : tf_C} {Q : tf_Q} {h : LH} (hn : 297 ≤ nc) {x1 : Int32} {x2 : Int32} {x3 : Int32} {x4 : Value} (q : (vp_in x3 7) ∧ C 1 [.int (x2), .int (h.1 294 (x3 : Int32).toNatClampNeg)] h (fun r g => lx_X9_sendsTo nc C Q 90 [.ref (270), .int (x1), .int (x2), .int (x3), x4] (r :: []) g)) : lx_X9_sendsTo nc C Q 80 [.ref (270), .int (x1), .int (x2), .int (x3), x4] [] h := by
  refine tf_LW_go ?_
  exact ⟨⟨(by first | rfl | trivial), (show 270 < nc by omega)⟩, ⟨⟨(by first | rfl | trivial), (show 294 < nc by omega), q.1⟩, ⟨Nat.le_of_ble_eq_true rfl, Nat.le_of_ble_eq_true rfl, q.2⟩⟩⟩
set_option maxRecDepth 100000 in
theorem go_X9_sendsTo_90 {nc : Nat} {C : tf_C} {Q : tf_Q} {h : LH} (hn : 297 ≤ nc) {x1 : Int32} {x2 : Int32} {x3 : Int32} {x4 : Value} {y0 : Int32} (q : (vp_in x3 7) ∧ (vp_in x3 7) ∧ (vp_in x1 7) ∧ (vp_in x1 7) ∧ lx_X9_sendsTo nc C Q 113 [.ref (270), .int (x1), .int (y0), .int (x1), x4] [] (tf_up (tf_up h.1 294 (x3 : Int32).toNatClampNeg ((h.1 294 (x3 : Int32).toNatClampNeg) - y0)) 294 (x1 : Int32).toNatClampNeg (((tf_up h.1 294 (x3 : Int32).toNatClampNeg ((h.1 294 (x3 : Int32).toNatClampNeg) - y0)) 294 (x1 : Int32).toNatClampNeg) + y0), h.2)) : lx_X9_sendsTo nc C Q 90 [.ref (270), .int (x1), .int (x2), .int (x3), x4] [.int (y0)] h := by
  refine tf_LW_go ?_
  exact ⟨⟨(by first | rfl | trivial), (show 270 < nc by omega)⟩, ⟨⟨(by first | rfl | trivial), (show 294 < nc by omega), q.1⟩, ⟨⟨(by first | rfl | trivial), (show 294 < nc by omega), q.2.1⟩, ⟨⟨(by first | rfl | trivial), (show 270 < nc by omega)⟩, ⟨⟨(by first | rfl | trivial), (show 294 < nc by omega), q.2.2.1⟩, ⟨⟨(by first | rfl | trivial), (show 294 < nc by omega), q.2.2.2.1⟩, q.2.2.2.2⟩⟩⟩⟩⟩⟩
set_option maxRecDepth 100000 in
theorem go_X9_sendsTo_113 {nc : Nat} {C : tf_C} {Q : tf_Q} {h : LH} (hn : 297 ≤ nc) {x1 : Int32} {x2 : Int32} {x3 : Int32} {x4 : Value} (q : (vp_in x3 7) ∧ ((h.1 296 (x3 : Int32).toNatClampNeg) = ((-1) : Int32) → lx_X9_sendsTo nc C Q 165 [.ref (270), .int (x1), .int (x2), .int (x3), x4] [] h) ∧ (¬ (h.1 296 (x3 : Int32).toNatClampNeg) = ((-1) : Int32) → (vp_in x3 7) ∧ (vp_in ((h.1 296 (x3 : Int32).toNatClampNeg) / 2) 14) ∧ (vp_in x3 7) ∧ (((h.1 296 (x3 : Int32).toNatClampNeg) - (h.1 296 (x3 : Int32).toNatClampNeg) / 2 * 2) = (0 : Int32) → lx_X9_sendsTo nc C Q 154 [.ref (270), .int (x1), .int (x2), .int (x3), x4] [.int (x2), .int (h.1 293 ((h.1 296 (x3 : Int32).toNatClampNeg) / 2 : Int32).toNatClampNeg), .int ((h.1 296 (x3 : Int32).toNatClampNeg) / 2), .ref (293)] h) ∧ (¬ ((h.1 296 (x3 : Int32).toNatClampNeg) - (h.1 296 (x3 : Int32).toNatClampNeg) / 2 * 2) = (0 : Int32) → lx_X9_sendsTo nc C Q 152 [.ref (270), .int (x1), .int (x2), .int (x3), x4] [.int (h.1 293 ((h.1 296 (x3 : Int32).toNatClampNeg) / 2 : Int32).toNatClampNeg), .int ((h.1 296 (x3 : Int32).toNatClampNeg) / 2), .ref (293)] h))) : lx_X9_sendsTo nc C Q 113 [.ref (270), .int (x1), .int (x2), .int (x3), x4] [] h := by
  refine tf_LW_go ?_
  exact ⟨⟨(by first | rfl | trivial), (show 270 < nc by omega)⟩, ⟨⟨(by first | rfl | trivial), (show 296 < nc by omega), q.1⟩, ⟨q.2.1, fun c2 => ⟨⟨(by first | rfl | trivial), (show 270 < nc by omega)⟩, ⟨⟨(by first | rfl | trivial), (show 270 < nc by omega)⟩, ⟨⟨(by first | rfl | trivial), (show 296 < nc by omega), (q.2.2 c2).1⟩, ⟨(by decide), ⟨⟨(by first | rfl | trivial), (show 293 < nc by omega), (q.2.2 c2).2.1⟩, ⟨⟨(by first | rfl | trivial), (show 270 < nc by omega)⟩, ⟨⟨(by first | rfl | trivial), (show 296 < nc by omega), (q.2.2 c2).2.2.1⟩, ⟨(by decide), ⟨fun c1 => ((q.2.2 c2).2.2.2.1 c1), (q.2.2 c2).2.2.2.2⟩⟩⟩⟩⟩⟩⟩⟩⟩⟩⟩⟩
set_option maxRecDepth 100000 in
theorem go_X9_sendsTo_152 {nc : Nat} {C : tf_C} {Q : tf_Q} {h : LH} (hn : 297 ≤ nc) {x1 : Int32} {x2 : Int32} {x3 : Int32} {x4 : Value} {y0 ny0 : Nat} {y1 : Int32} {y2 : Int32} (Ky0_0 : tf_K y0 = 8) (Ny0_0 : tf_N y0 = ny0) (By0 : y0 < nc) (q : lx_X9_sendsTo nc C Q 154 [.ref (270), .int (x1), .int (x2), .int (x3), x4] [.int (-x2), .int (y2), .int (y1), .ref (y0)] h) : lx_X9_sendsTo nc C Q 152 [.ref (270), .int (x1), .int (x2), .int (x3), x4] [.int (y2), .int (y1), .ref (y0)] h := by
  refine tf_LW_go ?_
  show lx_X9_sendsTo nc C Q 154 [.ref (270), .int (x1), .int (x2), .int (x3), x4] [.int (-x2), .int (y2), .int (y1), .ref (y0)] h
  try simp only [Ny0_0]
  exact q
set_option maxRecDepth 100000 in
theorem go_X9_sendsTo_154 {nc : Nat} {C : tf_C} {Q : tf_Q} {h : LH} (hn : 297 ≤ nc) {x1 : Int32} {x2 : Int32} {x3 : Int32} {x4 : Value} {y0 ny0 : Nat} {y1 : Int32} {y2 : Int32} {y3 : Int32} (Ky0_0 : tf_K y0 = 8) (Ny0_0 : tf_N y0 = ny0) (By0 : y0 < nc) (q : (vp_in y1 ny0) ∧ C 99 [.ref (270), .int (x3)] (tf_up h.1 y0 (y1 : Int32).toNatClampNeg (y2 + y3), h.2) (fun r g => lx_X9_sendsTo nc C Q 161 [.ref (270), .int (x1), .int (x2), .int (x3), x4] (r :: []) g)) : lx_X9_sendsTo nc C Q 154 [.ref (270), .int (x1), .int (x2), .int (x3), x4] [.int (y3), .int (y2), .int (y1), .ref (y0)] h := by
  refine tf_LW_go ?_
  show (tf_K y0 = 8 ∧ y0 < nc ∧ vp_in y1 (tf_N y0)) ∧ 2 ≤ 2 ∧ 0 ≤ 8 ∧ C 99 [.ref (270), .int (x3)] (tf_up h.1 y0 (y1 : Int32).toNatClampNeg (y2 + y3), h.2) (fun r g => lx_X9_sendsTo nc C Q 161 [.ref (270), .int (x1), .int (x2), .int (x3), x4] (r :: []) g)
  try simp only [Ny0_0]
  exact ⟨⟨Ky0_0, (show y0 < nc by omega), q.1⟩, ⟨Nat.le_of_ble_eq_true rfl, Nat.le_of_ble_eq_true rfl, q.2⟩⟩
set_option maxRecDepth 100000 in
theorem go_X9_sendsTo_161 {nc : Nat} {C : tf_C} {Q : tf_Q} {h : LH} (hn : 297 ≤ nc) {x1 : Int32} {x2 : Int32} {x3 : Int32} {x4 : Value} {y0 : Int32} (q : lx_X9_sendsTo nc C Q 113 [.ref (270), .int (x1), .int (x2), .int (y0), x4] [] h) : lx_X9_sendsTo nc C Q 161 [.ref (270), .int (x1), .int (x2), .int (x3), x4] [.int (y0)] h := by
  refine tf_LW_go ?_
  exact q
set_option maxRecDepth 100000 in
theorem go_X9_sendsTo_165 {nc : Nat} {C : tf_C} {Q : tf_Q} {h : LH} (hn : 297 ≤ nc) {x1 : Int32} {x2 : Int32} {x3 : Int32} {x4 : Value} (q : Q tf_z h) : lx_X9_sendsTo nc C Q 165 [.ref (270), .int (x1), .int (x2), .int (x3), x4] [] h := by
  refine tf_LW_go ?_
  exact ⟨(by first | rfl | trivial), q⟩
abbrev lx_X9_carries (nc : Nat) (C : tf_C) (Q : tf_Q) : tf_X := tf_LW nc C (tf_F 7) (tf_M 7) (tf_I 7) (tf_Eh 101) 2 tb_X9_carries Q
set_option maxRecDepth 100000 in
theorem go_X9_carries_0 {nc : Nat} {C : tf_C} {Q : tf_Q} {h : LH} (hn : 297 ≤ nc) (q : lx_X9_carries nc C Q 2 [.ref (270), .int (0), tf_z] [] h) : lx_X9_carries nc C Q 0 [.ref (270), tf_z, tf_z] [] h := by
  refine tf_LW_go ?_
  exact q
theorem en_X9_carries {nc d : Nat} {Q : tf_Q} {h : LH} (hn : 297 ≤ nc) (q : lx_X9_carries nc (tf_Cd nc d) Q 0 [.ref (270), tf_z, tf_z] [] h) : tf_Cd nc (d + 1) 101 [.ref (270)] h Q := by
  exact ⟨⟨Nat.le_of_ble_eq_true rfl, Or.inr ⟨rfl, (show 270 < nc by omega)⟩⟩, q⟩
set_option maxRecDepth 100000 in
theorem go_X9_carries_2 {nc : Nat} {C : tf_C} {Q : tf_Q} {h : LH} (hn : 297 ≤ nc) {x1 : Int32} (q : ((h.1 271 (1 : Int32).toNatClampNeg) ≤ x1 → lx_X9_carries nc C Q 83 [.ref (270), .int (x1), tf_z] [] h) ∧ (¬ (h.1 271 (1 : Int32).toNatClampNeg) ≤ x1 → (vp_in x1 14) ∧ ((0 : Int32) ≤ (h.1 292 (x1 : Int32).toNatClampNeg) → lx_X9_carries nc C Q 35 [.ref (270), .int (x1), tf_z] [.int (x1), .ref (293)] h) ∧ (¬ (0 : Int32) ≤ (h.1 292 (x1 : Int32).toNatClampNeg) → (vp_in x1 14) ∧ lx_X9_carries nc C Q 36 [.ref (270), .int (x1), tf_z] [.int (h.1 291 (x1 : Int32).toNatClampNeg), .int (x1), .ref (293)] h))) : lx_X9_carries nc C Q 2 [.ref (270), .int (x1), tf_z] [] h := by
  refine tf_LW_go ?_
  exact ⟨⟨(by first | rfl | trivial), (show 270 < nc by omega)⟩, ⟨⟨(by first | rfl | trivial), (show 271 < nc by omega), (vp_in_iff.mpr (by decide))⟩, ⟨q.1, fun c2 => ⟨⟨(by first | rfl | trivial), (show 270 < nc by omega)⟩, ⟨⟨(by first | rfl | trivial), (show 270 < nc by omega)⟩, ⟨⟨(by first | rfl | trivial), (show 292 < nc by omega), (q.2 c2).1⟩, ⟨(q.2 c2).2.1, fun c1 => ⟨⟨(by first | rfl | trivial), (show 270 < nc by omega)⟩, ⟨⟨(by first | rfl | trivial), (show 291 < nc by omega), ((q.2 c2).2.2 c1).1⟩, ((q.2 c2).2.2 c1).2⟩⟩⟩⟩⟩⟩⟩⟩⟩
set_option maxRecDepth 100000 in
theorem go_X9_carries_35 {nc : Nat} {C : tf_C} {Q : tf_Q} {h : LH} (hn : 297 ≤ nc) {x1 : Int32} {y0 ny0 : Nat} {y1 : Int32} (Ky0_0 : tf_K y0 = 8) (Ny0_0 : tf_N y0 = ny0) (By0 : y0 < nc) (q : lx_X9_carries nc C Q 36 [.ref (270), .int (x1), tf_z] [.int (0), .int (y1), .ref (y0)] h) : lx_X9_carries nc C Q 35 [.ref (270), .int (x1), tf_z] [.int (y1), .ref (y0)] h := by
  refine tf_LW_go ?_
  show lx_X9_carries nc C Q 36 [.ref (270), .int (x1), tf_z] [.int (0), .int (y1), .ref (y0)] h
  try simp only [Ny0_0]
  exact q
set_option maxRecDepth 100000 in
theorem go_X9_carries_36 {nc : Nat} {C : tf_C} {Q : tf_Q} {h : LH} (hn : 297 ≤ nc) {x1 : Int32} {y0 ny0 : Nat} {y1 : Int32} {y2 : Int32} (Ky0_0 : tf_K y0 = 8) (Ny0_0 : tf_N y0 = ny0) (By0 : y0 < nc) (q : (vp_in y1 ny0) ∧ C 3 [.ref (270), .int (x1), .int (0)] (tf_up h.1 y0 (y1 : Int32).toNatClampNeg y2, h.2) (fun r g => lx_X9_carries nc C Q 47 [.ref (270), .int (x1), tf_z] (r :: [.ref (294)]) g)) : lx_X9_carries nc C Q 36 [.ref (270), .int (x1), tf_z] [.int (y2), .int (y1), .ref (y0)] h := by
  refine tf_LW_go ?_
  show (tf_K y0 = 8 ∧ y0 < nc ∧ vp_in y1 (tf_N y0)) ∧ (tf_K 270 = 7 ∧ 270 < nc) ∧ 3 ≤ 4 ∧ 1 ≤ 8 ∧ C 3 [.ref (270), .int (x1), .int (0)] (tf_up h.1 y0 (y1 : Int32).toNatClampNeg y2, h.2) (fun r g => lx_X9_carries nc C Q 47 [.ref (270), .int (x1), tf_z] (r :: [.ref (294)]) g)
  try simp only [Ny0_0]
  exact ⟨⟨Ky0_0, (show y0 < nc by omega), q.1⟩, ⟨⟨(by first | rfl | trivial), (show 270 < nc by omega)⟩, ⟨Nat.le_of_ble_eq_true rfl, Nat.le_of_ble_eq_true rfl, q.2⟩⟩⟩
set_option maxRecDepth 100000 in
theorem go_X9_carries_47 {nc : Nat} {C : tf_C} {Q : tf_Q} {h : LH} (hn : 297 ≤ nc) {x1 : Int32} {y0 ny0 : Nat} {y1 : Int32} (Ky0_0 : tf_K y0 = 8) (Ny0_0 : tf_N y0 = ny0) (By0 : y0 < nc) (q : (vp_in y1 ny0) ∧ (vp_in x1 14) ∧ (vp_in y1 ny0) ∧ C 3 [.ref (270), .int (x1), .int (1)] (tf_up h.1 y0 (y1 : Int32).toNatClampNeg ((h.1 y0 (y1 : Int32).toNatClampNeg) - (h.1 293 (x1 : Int32).toNatClampNeg)), h.2) (fun r g => lx_X9_carries nc C Q 67 [.ref (270), .int (x1), tf_z] (r :: [.ref (294)]) g)) : lx_X9_carries nc C Q 47 [.ref (270), .int (x1), tf_z] [.int (y1), .ref (y0)] h := by
  refine tf_LW_go ?_
  show (tf_K y0 = 8 ∧ y0 < nc ∧ vp_in y1 (tf_N y0)) ∧ (tf_K 270 = 7 ∧ 270 < nc) ∧ (tf_K 293 = 8 ∧ 293 < nc ∧ vp_in x1 14) ∧ (tf_K y0 = 8 ∧ y0 < nc ∧ vp_in y1 (tf_N y0)) ∧ (tf_K 270 = 7 ∧ 270 < nc) ∧ 3 ≤ 4 ∧ 1 ≤ 8 ∧ C 3 [.ref (270), .int (x1), .int (1)] (tf_up h.1 y0 (y1 : Int32).toNatClampNeg ((h.1 y0 (y1 : Int32).toNatClampNeg) - (h.1 293 (x1 : Int32).toNatClampNeg)), h.2) (fun r g => lx_X9_carries nc C Q 67 [.ref (270), .int (x1), tf_z] (r :: [.ref (294)]) g)
  try simp only [Ny0_0]
  exact ⟨⟨Ky0_0, (show y0 < nc by omega), q.1⟩, ⟨⟨(by first | rfl | trivial), (show 270 < nc by omega)⟩, ⟨⟨(by first | rfl | trivial), (show 293 < nc by omega), q.2.1⟩, ⟨⟨Ky0_0, (show y0 < nc by omega), q.2.2.1⟩, ⟨⟨(by first | rfl | trivial), (show 270 < nc by omega)⟩, ⟨Nat.le_of_ble_eq_true rfl, Nat.le_of_ble_eq_true rfl, q.2.2.2⟩⟩⟩⟩⟩⟩
set_option maxRecDepth 100000 in
theorem go_X9_carries_67 {nc : Nat} {C : tf_C} {Q : tf_Q} {h : LH} (hn : 297 ≤ nc) {x1 : Int32} {y0 ny0 : Nat} {y1 : Int32} (Ky0_0 : tf_K y0 = 8) (Ny0_0 : tf_N y0 = ny0) (By0 : y0 < nc) (q : (vp_in y1 ny0) ∧ (vp_in x1 14) ∧ (vp_in y1 ny0) ∧ lx_X9_carries nc C Q 2 [.ref (270), .int (x1 + 1), tf_z] [] (tf_up h.1 y0 (y1 : Int32).toNatClampNeg ((h.1 y0 (y1 : Int32).toNatClampNeg) + (h.1 293 (x1 : Int32).toNatClampNeg)), h.2)) : lx_X9_carries nc C Q 67 [.ref (270), .int (x1), tf_z] [.int (y1), .ref (y0)] h := by
  refine tf_LW_go ?_
  show (tf_K y0 = 8 ∧ y0 < nc ∧ vp_in y1 (tf_N y0)) ∧ (tf_K 270 = 7 ∧ 270 < nc) ∧ (tf_K 293 = 8 ∧ 293 < nc ∧ vp_in x1 14) ∧ (tf_K y0 = 8 ∧ y0 < nc ∧ vp_in y1 (tf_N y0)) ∧ lx_X9_carries nc C Q 2 [.ref (270), .int (x1 + 1), tf_z] [] (tf_up h.1 y0 (y1 : Int32).toNatClampNeg ((h.1 y0 (y1 : Int32).toNatClampNeg) + (h.1 293 (x1 : Int32).toNatClampNeg)), h.2)
  try simp only [Ny0_0]
  exact ⟨⟨Ky0_0, (show y0 < nc by omega), q.1⟩, ⟨⟨(by first | rfl | trivial), (show 270 < nc by omega)⟩, ⟨⟨(by first | rfl | trivial), (show 293 < nc by omega), q.2.1⟩, ⟨⟨Ky0_0, (show y0 < nc by omega), q.2.2.1⟩, q.2.2.2⟩⟩⟩⟩
set_option maxRecDepth 100000 in
theorem go_X9_carries_83 {nc : Nat} {C : tf_C} {Q : tf_Q} {h : LH} (hn : 297 ≤ nc) {x1 : Int32} (q : lx_X9_carries nc C Q 87 [.ref (270), .int (0), .int (0)] [] h) : lx_X9_carries nc C Q 83 [.ref (270), .int (x1), tf_z] [] h := by
  refine tf_LW_go ?_
  exact q
set_option maxRecDepth 100000 in
theorem go_X9_carries_87 {nc : Nat} {C : tf_C} {Q : tf_Q} {h : LH} (hn : 297 ≤ nc) {x1 : Int32} {x2 : Int32} (q : ((10000 : Int32) ≤ x2 → lx_X9_carries nc C Q 124 [.ref (270), .int (x1), .int (x2)] [] h) ∧ (¬ (10000 : Int32) ≤ x2 → (x1 = ((-1) : Int32) → lx_X9_carries nc C Q 124 [.ref (270), .int (x1), .int (x2)] [] h) ∧ (¬ x1 = ((-1) : Int32) → C 97 [.ref (270)] h (fun r g => lx_X9_carries nc C Q 103 [.ref (270), .int (x1), .int (x2)] [] g)))) : lx_X9_carries nc C Q 87 [.ref (270), .int (x1), .int (x2)] [] h := by
  refine tf_LW_go ?_
  exact ⟨q.1, fun c2 => ⟨(q.2 c2).1, fun c1 => ⟨Nat.le_of_ble_eq_true rfl, Nat.le_of_ble_eq_true rfl, ((q.2 c2).2 c1)⟩⟩⟩
set_option maxRecDepth 100000 in
theorem go_X9_carries_103 {nc : Nat} {C : tf_C} {Q : tf_Q} {h : LH} (hn : 297 ≤ nc) {x1 : Int32} {x2 : Int32} (q : C 98 [.ref (270)] h (fun r g => lx_X9_carries nc C Q 107 [.ref (270), .int (x1), .int (x2)] (r :: []) g)) : lx_X9_carries nc C Q 103 [.ref (270), .int (x1), .int (x2)] [] h := by
  refine tf_LW_go ?_
  exact ⟨Nat.le_of_ble_eq_true rfl, Nat.le_of_ble_eq_true rfl, q⟩
set_option maxRecDepth 100000 in
theorem go_X9_carries_107 {nc : Nat} {C : tf_C} {Q : tf_Q} {h : LH} (hn : 297 ≤ nc) {x1 : Int32} {x2 : Int32} {y0 : Int32} (q : (y0 = ((-1) : Int32) → lx_X9_carries nc C Q 118 [.ref (270), .int (y0), .int (x2)] [] h) ∧ (¬ y0 = ((-1) : Int32) → C 100 [.ref (270), .int (y0)] h (fun r g => lx_X9_carries nc C Q 118 [.ref (270), .int (y0), .int (x2)] [] g))) : lx_X9_carries nc C Q 107 [.ref (270), .int (x1), .int (x2)] [.int (y0)] h := by
  refine tf_LW_go ?_
  exact ⟨q.1, fun c1 => ⟨Nat.le_of_ble_eq_true rfl, Nat.le_of_ble_eq_true rfl, (q.2 c1)⟩⟩
set_option maxRecDepth 100000 in
theorem go_X9_carries_118 {nc : Nat} {C : tf_C} {Q : tf_Q} {h : LH} (hn : 297 ≤ nc) {x1 : Int32} {x2 : Int32} (q : lx_X9_carries nc C Q 87 [.ref (270), .int (x1), .int (x2 + 1)] [] h) : lx_X9_carries nc C Q 118 [.ref (270), .int (x1), .int (x2)] [] h := by
  refine tf_LW_go ?_
  exact q
set_option maxRecDepth 100000 in
theorem go_X9_carries_124 {nc : Nat} {C : tf_C} {Q : tf_Q} {h : LH} (hn : 297 ≤ nc) {x1 : Int32} {x2 : Int32} (q : lx_X9_carries nc C Q 126 [.ref (270), .int (x1), .int (0)] [] h) : lx_X9_carries nc C Q 124 [.ref (270), .int (x1), .int (x2)] [] h := by
  refine tf_LW_go ?_
  exact q
set_option maxRecDepth 100000 in
theorem go_X9_carries_126 {nc : Nat} {C : tf_C} {Q : tf_Q} {h : LH} (hn : 297 ≤ nc) {x1 : Int32} {x2 : Int32} (q : ((h.1 271 (0 : Int32).toNatClampNeg) ≤ x2 → lx_X9_carries nc C Q 153 [.ref (270), .int (x1), .int (x2)] [] h) ∧ (¬ (h.1 271 (0 : Int32).toNatClampNeg) ≤ x2 → (vp_in x2 7) ∧ ((h.1 294 (x2 : Int32).toNatClampNeg) = (0 : Int32) → lx_X9_carries nc C Q 147 [.ref (270), .int (x1), .int (x2)] [] h) ∧ (¬ (h.1 294 (x2 : Int32).toNatClampNeg) = (0 : Int32) → Q (.int (0)) h))) : lx_X9_carries nc C Q 126 [.ref (270), .int (x1), .int (x2)] [] h := by
  refine tf_LW_go ?_
  exact ⟨⟨(by first | rfl | trivial), (show 270 < nc by omega)⟩, ⟨⟨(by first | rfl | trivial), (show 271 < nc by omega), (vp_in_iff.mpr (by decide))⟩, ⟨q.1, fun c2 => ⟨⟨(by first | rfl | trivial), (show 270 < nc by omega)⟩, ⟨⟨(by first | rfl | trivial), (show 294 < nc by omega), (q.2 c2).1⟩, ⟨(q.2 c2).2.1, fun c1 => ⟨(by first | rfl | trivial), ((q.2 c2).2.2 c1)⟩⟩⟩⟩⟩⟩⟩
set_option maxRecDepth 100000 in
theorem go_X9_carries_147 {nc : Nat} {C : tf_C} {Q : tf_Q} {h : LH} (hn : 297 ≤ nc) {x1 : Int32} {x2 : Int32} (q : lx_X9_carries nc C Q 126 [.ref (270), .int (x1), .int (x2 + 1)] [] h) : lx_X9_carries nc C Q 147 [.ref (270), .int (x1), .int (x2)] [] h := by
  refine tf_LW_go ?_
  exact q
set_option maxRecDepth 100000 in
theorem go_X9_carries_153 {nc : Nat} {C : tf_C} {Q : tf_Q} {h : LH} (hn : 297 ≤ nc) {x1 : Int32} {x2 : Int32} (q : Q (.int (1)) h) : lx_X9_carries nc C Q 153 [.ref (270), .int (x1), .int (x2)] [] h := by
  refine tf_LW_go ?_
  exact ⟨(by first | rfl | trivial), q⟩
abbrev lx_X9_cheapestCost (nc : Nat) (C : tf_C) (Q : tf_Q) : tf_X := tf_LW nc C (tf_F 7) (tf_M 7) (tf_I 7) (tf_Eh 102) 1 tb_X9_cheapestCost Q
set_option maxRecDepth 100000 in
theorem go_X9_cheapestCost_0 {nc : Nat} {C : tf_C} {Q : tf_Q} {h : LH} (hn : 297 ≤ nc) (q : C 101 [.ref (270)] h (fun r g => lx_X9_cheapestCost nc C Q 4 [.ref (270), tf_z, tf_z] (r :: []) g)) : lx_X9_cheapestCost nc C Q 0 [.ref (270), tf_z, tf_z] [] h := by
  refine tf_LW_go ?_
  exact ⟨Nat.le_of_ble_eq_true rfl, Nat.le_of_ble_eq_true rfl, q⟩
theorem en_X9_cheapestCost {nc d : Nat} {Q : tf_Q} {h : LH} (hn : 297 ≤ nc) (q : lx_X9_cheapestCost nc (tf_Cd nc d) Q 0 [.ref (270), tf_z, tf_z] [] h) : tf_Cd nc (d + 1) 102 [.ref (270)] h Q := by
  exact ⟨⟨Nat.le_of_ble_eq_true rfl, Or.inr ⟨rfl, (show 270 < nc by omega)⟩⟩, q⟩
set_option maxRecDepth 100000 in
theorem go_X9_cheapestCost_4 {nc : Nat} {C : tf_C} {Q : tf_Q} {h : LH} (hn : 297 ≤ nc) {y0 : Int32} (q : (y0 = (0 : Int32) → Q (.int ((-1000000))) h) ∧ (¬ y0 = (0 : Int32) → lx_X9_cheapestCost nc C Q 11 [.ref (270), tf_z, tf_z] [] h)) : lx_X9_cheapestCost nc C Q 4 [.ref (270), tf_z, tf_z] [.int (y0)] h := by
  refine tf_LW_go ?_
  exact ⟨fun c1 => ⟨(by first | trivial | rfl), (q.1 c1)⟩, q.2⟩
set_option maxRecDepth 100000 in
theorem go_X9_cheapestCost_11 {nc : Nat} {C : tf_C} {Q : tf_Q} {h : LH} (hn : 297 ≤ nc) (q : lx_X9_cheapestCost nc C Q 15 [.ref (270), .int (0), .int (0)] [] h) : lx_X9_cheapestCost nc C Q 11 [.ref (270), tf_z, tf_z] [] h := by
  refine tf_LW_go ?_
  exact q
set_option maxRecDepth 100000 in
theorem go_X9_cheapestCost_15 {nc : Nat} {C : tf_C} {Q : tf_Q} {h : LH} (hn : 297 ≤ nc) {x1 : Int32} {x2 : Int32} (q : ((h.1 271 (1 : Int32).toNatClampNeg) ≤ x2 → lx_X9_cheapestCost nc C Q 47 [.ref (270), .int (x1), .int (x2)] [] h) ∧ (¬ (h.1 271 (1 : Int32).toNatClampNeg) ≤ x2 → (vp_in x2 14) ∧ (vp_in x2 14) ∧ lx_X9_cheapestCost nc C Q 15 [.ref (270), .int (x1 + ((h.1 293 (x2 : Int32).toNatClampNeg) * (h.1 292 (x2 : Int32).toNatClampNeg))), .int (x2 + 1)] [] h)) : lx_X9_cheapestCost nc C Q 15 [.ref (270), .int (x1), .int (x2)] [] h := by
  refine tf_LW_go ?_
  exact ⟨⟨(by first | rfl | trivial), (show 270 < nc by omega)⟩, ⟨⟨(by first | rfl | trivial), (show 271 < nc by omega), (vp_in_iff.mpr (by decide))⟩, ⟨q.1, fun c1 => ⟨⟨(by first | rfl | trivial), (show 270 < nc by omega)⟩, ⟨⟨(by first | rfl | trivial), (show 293 < nc by omega), (q.2 c1).1⟩, ⟨⟨(by first | rfl | trivial), (show 270 < nc by omega)⟩, ⟨⟨(by first | rfl | trivial), (show 292 < nc by omega), (q.2 c1).2.1⟩, (q.2 c1).2.2⟩⟩⟩⟩⟩⟩⟩
set_option maxRecDepth 100000 in
theorem go_X9_cheapestCost_47 {nc : Nat} {C : tf_C} {Q : tf_Q} {h : LH} (hn : 297 ≤ nc) {x1 : Int32} {x2 : Int32} (q : Q (.int (x1)) h) : lx_X9_cheapestCost nc C Q 47 [.ref (270), .int (x1), .int (x2)] [] h := by
  refine tf_LW_go ?_
  exact ⟨(by first | trivial | rfl), q⟩
abbrev lx_X9_least (nc : Nat) (C : tf_C) (Q : tf_Q) : tf_X := tf_LW nc C (tf_F 7) (tf_M 7) (tf_I 7) (tf_Eh 103) 1 tb_X9_least Q
set_option maxRecDepth 100000 in
theorem go_X9_least_0 {nc : Nat} {C : tf_C} {Q : tf_Q} {h : LH} (hn : 297 ≤ nc) (q : C 95 [.ref (270)] (tf_up h.1 270 0 0, h.2) (fun r g => lx_X9_least nc C Q 9 [.ref (270)] [] g)) : lx_X9_least nc C Q 0 [.ref (270)] [] h := by
  refine tf_LW_go ?_
  exact ⟨⟨(by first | rfl | trivial), (show 270 < nc by omega), (by first | rfl | trivial)⟩, ⟨Nat.le_of_ble_eq_true rfl, Nat.le_of_ble_eq_true rfl, q⟩⟩
theorem en_X9_least {nc d : Nat} {Q : tf_Q} {h : LH} (hn : 297 ≤ nc) (q : lx_X9_least nc (tf_Cd nc d) Q 0 [.ref (270)] [] h) : tf_Cd nc (d + 1) 103 [.ref (270)] h Q := by
  exact ⟨⟨Nat.le_of_ble_eq_true rfl, Or.inr ⟨rfl, (show 270 < nc by omega)⟩⟩, q⟩
set_option maxRecDepth 100000 in
theorem go_X9_least_9 {nc : Nat} {C : tf_C} {Q : tf_Q} {h : LH} (hn : 297 ≤ nc) (q : C 102 [.ref (270)] h (fun r g => lx_X9_least nc C Q 13 [.ref (270)] (r :: []) g)) : lx_X9_least nc C Q 9 [.ref (270)] [] h := by
  refine tf_LW_go ?_
  exact ⟨Nat.le_of_ble_eq_true rfl, Nat.le_of_ble_eq_true rfl, q⟩
set_option maxRecDepth 100000 in
theorem go_X9_least_13 {nc : Nat} {C : tf_C} {Q : tf_Q} {h : LH} (hn : 297 ≤ nc) {y0 : Int32} (q : Q (.int (y0)) h) : lx_X9_least nc C Q 13 [.ref (270)] [.int (y0)] h := by
  refine tf_LW_go ?_
  exact ⟨(by first | trivial | rfl), q⟩
abbrev lx_X9_lessThan (nc : Nat) (C : tf_C) (Q : tf_Q) : tf_X := tf_LW nc C (tf_F 7) (tf_M 7) (tf_I 7) (tf_Eh 104) 1 tb_X9_lessThan Q
set_option maxRecDepth 100000 in
theorem go_X9_lessThan_0 {nc : Nat} {C : tf_C} {Q : tf_Q} {h : LH} (hn : 297 ≤ nc) {x1 : Int32} {x2 : Int32} (q : (x1 = ((-1000000) : Int32) → lx_X9_lessThan nc C Q 14 [.ref (270), .int (x1), .int (x2)] [] h) ∧ (¬ x1 = ((-1000000) : Int32) → (x2 = ((-1000000) : Int32) → lx_X9_lessThan nc C Q 14 [.ref (270), .int (x1), .int (x2)] [] h) ∧ (¬ x2 = ((-1000000) : Int32) → lx_X9_lessThan nc C Q 20 [.ref (270), .int (x1), .int (x2)] [] h))) : lx_X9_lessThan nc C Q 0 [.ref (270), .int (x1), .int (x2)] [] h := by
  refine tf_LW_go ?_
  exact ⟨q.1, fun c2 => ⟨fun c1 => ((q.2 c2).1 c1), (q.2 c2).2⟩⟩
theorem en_X9_lessThan {nc d : Nat} {Q : tf_Q} {h : LH} (hn : 297 ≤ nc) {x1 : Int32} {x2 : Int32} (q : lx_X9_lessThan nc (tf_Cd nc d) Q 0 [.ref (270), .int (x1), .int (x2)] [] h) : tf_Cd nc (d + 1) 104 [.ref (270), .int (x1), .int (x2)] h Q := by
  exact ⟨⟨Nat.le_of_ble_eq_true rfl, Or.inr ⟨rfl, (show 270 < nc by omega)⟩⟩, q⟩
set_option maxRecDepth 100000 in
theorem go_X9_lessThan_14 {nc : Nat} {C : tf_C} {Q : tf_Q} {h : LH} (hn : 297 ≤ nc) {x1 : Int32} {x2 : Int32} (q : lx_X9_lessThan nc C Q 23 [.ref (270), .int (x1), .int (x2)] [.int ((-1000000))] h) : lx_X9_lessThan nc C Q 14 [.ref (270), .int (x1), .int (x2)] [] h := by
  refine tf_LW_go ?_
  exact q
set_option maxRecDepth 100000 in
theorem go_X9_lessThan_20 {nc : Nat} {C : tf_C} {Q : tf_Q} {h : LH} (hn : 297 ≤ nc) {x1 : Int32} {x2 : Int32} (q : lx_X9_lessThan nc C Q 23 [.ref (270), .int (x1), .int (x2)] [.int (x1 - x2)] h) : lx_X9_lessThan nc C Q 20 [.ref (270), .int (x1), .int (x2)] [] h := by
  refine tf_LW_go ?_
  exact q
set_option maxRecDepth 100000 in
theorem go_X9_lessThan_23 {nc : Nat} {C : tf_C} {Q : tf_Q} {h : LH} (hn : 297 ≤ nc) {x1 : Int32} {x2 : Int32} {y0 : Int32} (q : Q (.int (y0)) h) : lx_X9_lessThan nc C Q 23 [.ref (270), .int (x1), .int (x2)] [.int (y0)] h := by
  refine tf_LW_go ?_
  exact ⟨(by first | trivial | rfl), q⟩
abbrev lx_X9_worth (nc : Nat) (C : tf_C) (Q : tf_Q) : tf_X := tf_LW nc C (tf_F 7) (tf_M 7) (tf_I 7) (tf_Eh 105) 1 tb_X9_worth Q
set_option maxRecDepth 100000 in
theorem go_X9_worth_0 {nc : Nat} {C : tf_C} {Q : tf_Q} {h : LH} (hn : 297 ≤ nc) {x1 : Int32} {x2 : Int32} (q : C 5 [.ref (270), .int (x1)] (tf_up h.1 270 0 0, h.2) (fun r g => lx_X9_worth nc C Q 10 [.ref (270), .int (x1), .int (x2), tf_z] (r :: []) g)) : lx_X9_worth nc C Q 0 [.ref (270), .int (x1), .int (x2), tf_z] [] h := by
  refine tf_LW_go ?_
  exact ⟨⟨(by first | rfl | trivial), (show 270 < nc by omega), (by first | rfl | trivial)⟩, ⟨Nat.le_of_ble_eq_true rfl, Nat.le_of_ble_eq_true rfl, q⟩⟩
theorem en_X9_worth {nc d : Nat} {Q : tf_Q} {h : LH} (hn : 297 ≤ nc) {x1 : Int32} {x2 : Int32} (q : lx_X9_worth nc (tf_Cd nc d) Q 0 [.ref (270), .int (x1), .int (x2), tf_z] [] h) : tf_Cd nc (d + 1) 105 [.ref (270), .int (x1), .int (x2)] h Q := by
  exact ⟨⟨Nat.le_of_ble_eq_true rfl, Or.inr ⟨rfl, (show 270 < nc by omega)⟩⟩, q⟩
set_option maxRecDepth 100000 in
theorem go_X9_worth_10 {nc : Nat} {C : tf_C} {Q : tf_Q} {h : LH} (hn : 297 ≤ nc) {x1 : Int32} {x2 : Int32} {y0 : Int32} (q : (y0 = (0 : Int32) → lx_X9_worth nc C Q 22 [.ref (270), .int (x1), .int (x2), tf_z] [] h) ∧ (¬ y0 = (0 : Int32) → C 0 [.int (x2), .int (0), .int (2)] h (fun r g => lx_X9_worth nc C Q 19 [.ref (270), .int (x1), .int (x2), tf_z] (r :: []) g))) : lx_X9_worth nc C Q 10 [.ref (270), .int (x1), .int (x2), tf_z] [.int (y0)] h := by
  refine tf_LW_go ?_
  exact ⟨q.1, fun c1 => ⟨Nat.le_of_ble_eq_true rfl, Nat.le_of_ble_eq_true rfl, (q.2 c1)⟩⟩
set_option maxRecDepth 100000 in
theorem go_X9_worth_19 {nc : Nat} {C : tf_C} {Q : tf_Q} {h : LH} (hn : 297 ≤ nc) {x1 : Int32} {x2 : Int32} {y0 : Int32} (q : (y0 = (0 : Int32) → lx_X9_worth nc C Q 22 [.ref (270), .int (x1), .int (x2), tf_z] [] h) ∧ (¬ y0 = (0 : Int32) → lx_X9_worth nc C Q 26 [.ref (270), .int (x1), .int (x2), tf_z] [] h)) : lx_X9_worth nc C Q 19 [.ref (270), .int (x1), .int (x2), tf_z] [.int (y0)] h := by
  refine tf_LW_go ?_
  exact ⟨fun c1 => (q.1 c1), q.2⟩
set_option maxRecDepth 100000 in
theorem go_X9_worth_22 {nc : Nat} {C : tf_C} {Q : tf_Q} {h : LH} (hn : 297 ≤ nc) {x1 : Int32} {x2 : Int32} (q : Q (.int ((-1000000))) h) : lx_X9_worth nc C Q 22 [.ref (270), .int (x1), .int (x2), tf_z] [] h := by
  refine tf_LW_go ?_
  exact ⟨(by first | trivial | rfl), q⟩
set_option maxRecDepth 100000 in
theorem go_X9_worth_26 {nc : Nat} {C : tf_C} {Q : tf_Q} {h : LH} (hn : 297 ≤ nc) {x1 : Int32} {x2 : Int32} (q : C 95 [.ref (270)] h (fun r g => lx_X9_worth nc C Q 30 [.ref (270), .int (x1), .int (x2), tf_z] [] g)) : lx_X9_worth nc C Q 26 [.ref (270), .int (x1), .int (x2), tf_z] [] h := by
  refine tf_LW_go ?_
  exact ⟨Nat.le_of_ble_eq_true rfl, Nat.le_of_ble_eq_true rfl, q⟩
set_option maxRecDepth 100000 in
theorem go_X9_worth_30 {nc : Nat} {C : tf_C} {Q : tf_Q} {h : LH} (hn : 297 ≤ nc) {x1 : Int32} {x2 : Int32} (q : C 102 [.ref (270)] h (fun r g => lx_X9_worth nc C Q 34 [.ref (270), .int (x1), .int (x2), tf_z] (r :: []) g)) : lx_X9_worth nc C Q 30 [.ref (270), .int (x1), .int (x2), tf_z] [] h := by
  refine tf_LW_go ?_
  exact ⟨Nat.le_of_ble_eq_true rfl, Nat.le_of_ble_eq_true rfl, q⟩
set_option maxRecDepth 100000 in
theorem go_X9_worth_34 {nc : Nat} {C : tf_C} {Q : tf_Q} {h : LH} (hn : 297 ≤ nc) {x1 : Int32} {x2 : Int32} {y0 : Int32} (q : C 95 [.ref (270)] h (fun r g => lx_X9_worth nc C Q 39 [.ref (270), .int (x1), .int (x2), .int (y0)] [] g)) : lx_X9_worth nc C Q 34 [.ref (270), .int (x1), .int (x2), tf_z] [.int (y0)] h := by
  refine tf_LW_go ?_
  exact ⟨Nat.le_of_ble_eq_true rfl, Nat.le_of_ble_eq_true rfl, q⟩
set_option maxRecDepth 100000 in
theorem go_X9_worth_39 {nc : Nat} {C : tf_C} {Q : tf_Q} {h : LH} (hn : 297 ≤ nc) {x1 : Int32} {x2 : Int32} {x3 : Int32} (q : (x2 = (2 : Int32) → (vp_in x1 14) ∧ (vp_in x1 14) ∧ lx_X9_worth nc C Q 92 [.ref (270), .int (x1), .int (x2), .int (x3)] [] (tf_up h.1 292 (x1 : Int32).toNatClampNeg ((h.1 292 (x1 : Int32).toNatClampNeg) + 1), h.2)) ∧ (¬ x2 = (2 : Int32) → lx_X9_worth nc C Q 57 [.ref (270), .int (x1), .int (x2), .int (x3)] [] h)) : lx_X9_worth nc C Q 39 [.ref (270), .int (x1), .int (x2), .int (x3)] [] h := by
  refine tf_LW_go ?_
  exact ⟨fun c1 => ⟨⟨(by first | rfl | trivial), (show 270 < nc by omega)⟩, ⟨⟨(by first | rfl | trivial), (show 292 < nc by omega), (q.1 c1).1⟩, ⟨⟨(by first | rfl | trivial), (show 292 < nc by omega), (q.1 c1).2.1⟩, (q.1 c1).2.2⟩⟩⟩, q.2⟩
set_option maxRecDepth 100000 in
theorem go_X9_worth_57 {nc : Nat} {C : tf_C} {Q : tf_Q} {h : LH} (hn : 297 ≤ nc) {x1 : Int32} {x2 : Int32} {x3 : Int32} (q : (x2 = (1 : Int32) → (vp_in x1 14) ∧ lx_X9_worth nc C Q 92 [.ref (270), .int (x1), .int (x2), .int (x3)] [] (tf_up h.1 291 (x1 : Int32).toNatClampNeg 0, h.2)) ∧ (¬ x2 = (1 : Int32) → lx_X9_worth nc C Q 72 [.ref (270), .int (x1), .int (x2), .int (x3)] [] h)) : lx_X9_worth nc C Q 57 [.ref (270), .int (x1), .int (x2), .int (x3)] [] h := by
  refine tf_LW_go ?_
  exact ⟨fun c1 => ⟨⟨(by first | rfl | trivial), (show 270 < nc by omega)⟩, ⟨⟨(by first | rfl | trivial), (show 291 < nc by omega), (q.1 c1).1⟩, (q.1 c1).2⟩⟩, q.2⟩
set_option maxRecDepth 100000 in
theorem go_X9_worth_72 {nc : Nat} {C : tf_C} {Q : tf_Q} {h : LH} (hn : 297 ≤ nc) {x1 : Int32} {x2 : Int32} {x3 : Int32} (q : C 3 [.ref (270), .int (x1), .int (6)] h (fun r g => lx_X9_worth nc C Q 79 [.ref (270), .int (x1), .int (x2), .int (x3)] (r :: []) g)) : lx_X9_worth nc C Q 72 [.ref (270), .int (x1), .int (x2), .int (x3)] [] h := by
  refine tf_LW_go ?_
  exact ⟨Nat.le_of_ble_eq_true rfl, Nat.le_of_ble_eq_true rfl, q⟩
set_option maxRecDepth 100000 in
theorem go_X9_worth_79 {nc : Nat} {C : tf_C} {Q : tf_Q} {h : LH} (hn : 297 ≤ nc) {x1 : Int32} {x2 : Int32} {x3 : Int32} {y0 : Int32} (q : (y0 = (0 : Int32) → (vp_in x1 14) ∧ (vp_in x1 14) ∧ lx_X9_worth nc C Q 92 [.ref (270), .int (x1), .int (x2), .int (x3)] [] (tf_up h.1 291 (x1 : Int32).toNatClampNeg ((h.1 291 (x1 : Int32).toNatClampNeg) + 1), h.2)) ∧ (¬ y0 = (0 : Int32) → lx_X9_worth nc C Q 92 [.ref (270), .int (x1), .int (x2), .int (x3)] [] h)) : lx_X9_worth nc C Q 79 [.ref (270), .int (x1), .int (x2), .int (x3)] [.int (y0)] h := by
  refine tf_LW_go ?_
  exact ⟨fun c1 => ⟨⟨(by first | rfl | trivial), (show 270 < nc by omega)⟩, ⟨⟨(by first | rfl | trivial), (show 291 < nc by omega), (q.1 c1).1⟩, ⟨⟨(by first | rfl | trivial), (show 291 < nc by omega), (q.1 c1).2.1⟩, (q.1 c1).2.2⟩⟩⟩, q.2⟩
set_option maxRecDepth 100000 in
theorem go_X9_worth_92 {nc : Nat} {C : tf_C} {Q : tf_Q} {h : LH} (hn : 297 ≤ nc) {x1 : Int32} {x2 : Int32} {x3 : Int32} (q : C 102 [.ref (270)] h (fun r g => lx_X9_worth nc C Q 97 [.ref (270), .int (x1), .int (x2), .int (x3)] (r :: [.ref (270)]) g)) : lx_X9_worth nc C Q 92 [.ref (270), .int (x1), .int (x2), .int (x3)] [] h := by
  refine tf_LW_go ?_
  exact ⟨Nat.le_of_ble_eq_true rfl, Nat.le_of_ble_eq_true rfl, q⟩
set_option maxRecDepth 100000 in
theorem go_X9_worth_97 {nc : Nat} {C : tf_C} {Q : tf_Q} {h : LH} (hn : 297 ≤ nc) {x1 : Int32} {x2 : Int32} {x3 : Int32} {y1 : Int32} (q : C 104 [.ref (270), .int (y1), .int (x3)] h (fun r g => lx_X9_worth nc C Q 101 [.ref (270), .int (x1), .int (x2), .int (x3)] (r :: []) g)) : lx_X9_worth nc C Q 97 [.ref (270), .int (x1), .int (x2), .int (x3)] [.int (y1), .ref (270)] h := by
  refine tf_LW_go ?_
  exact ⟨Nat.le_of_ble_eq_true rfl, Nat.le_of_ble_eq_true rfl, q⟩
set_option maxRecDepth 100000 in
theorem go_X9_worth_101 {nc : Nat} {C : tf_C} {Q : tf_Q} {h : LH} (hn : 297 ≤ nc) {x1 : Int32} {x2 : Int32} {x3 : Int32} {y0 : Int32} (q : Q (.int (y0)) h) : lx_X9_worth nc C Q 101 [.ref (270), .int (x1), .int (x2), .int (x3)] [.int (y0)] h := by
  refine tf_LW_go ?_
  exact ⟨(by first | trivial | rfl), q⟩
abbrev lx_X9_toll (nc : Nat) (C : tf_C) (Q : tf_Q) : tf_X := tf_LW nc C (tf_F 7) (tf_M 7) (tf_I 7) (tf_Eh 106) 1 tb_X9_toll Q
set_option maxRecDepth 100000 in
theorem go_X9_toll_0 {nc : Nat} {C : tf_C} {Q : tf_Q} {h : LH} (hn : 297 ≤ nc) {x1 : Int32} {x2 : Int32} (q : C 7 [.ref (270), .int (x1), .int (x2)] (tf_up h.1 270 0 0, h.2) (fun r g => lx_X9_toll nc C Q 11 [.ref (270), .int (x1), .int (x2), tf_z] (r :: []) g)) : lx_X9_toll nc C Q 0 [.ref (270), .int (x1), .int (x2), tf_z] [] h := by
  refine tf_LW_go ?_
  exact ⟨⟨(by first | rfl | trivial), (show 270 < nc by omega), (by first | rfl | trivial)⟩, ⟨Nat.le_of_ble_eq_true rfl, Nat.le_of_ble_eq_true rfl, q⟩⟩
theorem en_X9_toll {nc d : Nat} {Q : tf_Q} {h : LH} (hn : 297 ≤ nc) {x1 : Int32} {x2 : Int32} (q : lx_X9_toll nc (tf_Cd nc d) Q 0 [.ref (270), .int (x1), .int (x2), tf_z] [] h) : tf_Cd nc (d + 1) 106 [.ref (270), .int (x1), .int (x2)] h Q := by
  exact ⟨⟨Nat.le_of_ble_eq_true rfl, Or.inr ⟨rfl, (show 270 < nc by omega)⟩⟩, q⟩
set_option maxRecDepth 100000 in
theorem go_X9_toll_11 {nc : Nat} {C : tf_C} {Q : tf_Q} {h : LH} (hn : 297 ≤ nc) {x1 : Int32} {x2 : Int32} {y0 : Int32} (q : (y0 = (0 : Int32) → Q (.int ((-1000000))) h) ∧ (¬ y0 = (0 : Int32) → lx_X9_toll nc C Q 18 [.ref (270), .int (x1), .int (x2), tf_z] [] h)) : lx_X9_toll nc C Q 11 [.ref (270), .int (x1), .int (x2), tf_z] [.int (y0)] h := by
  refine tf_LW_go ?_
  exact ⟨fun c1 => ⟨(by first | trivial | rfl), (q.1 c1)⟩, q.2⟩
set_option maxRecDepth 100000 in
theorem go_X9_toll_18 {nc : Nat} {C : tf_C} {Q : tf_Q} {h : LH} (hn : 297 ≤ nc) {x1 : Int32} {x2 : Int32} (q : C 95 [.ref (270)] h (fun r g => lx_X9_toll nc C Q 22 [.ref (270), .int (x1), .int (x2), tf_z] [] g)) : lx_X9_toll nc C Q 18 [.ref (270), .int (x1), .int (x2), tf_z] [] h := by
  refine tf_LW_go ?_
  exact ⟨Nat.le_of_ble_eq_true rfl, Nat.le_of_ble_eq_true rfl, q⟩
set_option maxRecDepth 100000 in
theorem go_X9_toll_22 {nc : Nat} {C : tf_C} {Q : tf_Q} {h : LH} (hn : 297 ≤ nc) {x1 : Int32} {x2 : Int32} (q : C 102 [.ref (270)] h (fun r g => lx_X9_toll nc C Q 26 [.ref (270), .int (x1), .int (x2), tf_z] (r :: []) g)) : lx_X9_toll nc C Q 22 [.ref (270), .int (x1), .int (x2), tf_z] [] h := by
  refine tf_LW_go ?_
  exact ⟨Nat.le_of_ble_eq_true rfl, Nat.le_of_ble_eq_true rfl, q⟩
set_option maxRecDepth 100000 in
theorem go_X9_toll_26 {nc : Nat} {C : tf_C} {Q : tf_Q} {h : LH} (hn : 297 ≤ nc) {x1 : Int32} {x2 : Int32} {y0 : Int32} (q : C 95 [.ref (270)] h (fun r g => lx_X9_toll nc C Q 31 [.ref (270), .int (x1), .int (x2), .int (y0)] [] g)) : lx_X9_toll nc C Q 26 [.ref (270), .int (x1), .int (x2), tf_z] [.int (y0)] h := by
  refine tf_LW_go ?_
  exact ⟨Nat.le_of_ble_eq_true rfl, Nat.le_of_ble_eq_true rfl, q⟩
set_option maxRecDepth 100000 in
theorem go_X9_toll_31 {nc : Nat} {C : tf_C} {Q : tf_Q} {h : LH} (hn : 297 ≤ nc) {x1 : Int32} {x2 : Int32} {x3 : Int32} (q : (vp_in x1 7) ∧ (vp_in x1 7) ∧ (vp_in x2 7) ∧ (vp_in x2 7) ∧ C 102 [.ref (270)] (tf_up (tf_up h.1 294 (x1 : Int32).toNatClampNeg ((h.1 294 (x1 : Int32).toNatClampNeg) + 1)) 294 (x2 : Int32).toNatClampNeg (((tf_up h.1 294 (x1 : Int32).toNatClampNeg ((h.1 294 (x1 : Int32).toNatClampNeg) + 1)) 294 (x2 : Int32).toNatClampNeg) - 1), h.2) (fun r g => lx_X9_toll nc C Q 56 [.ref (270), .int (x1), .int (x2), .int (x3)] (r :: [.ref (270)]) g)) : lx_X9_toll nc C Q 31 [.ref (270), .int (x1), .int (x2), .int (x3)] [] h := by
  refine tf_LW_go ?_
  exact ⟨⟨(by first | rfl | trivial), (show 270 < nc by omega)⟩, ⟨⟨(by first | rfl | trivial), (show 294 < nc by omega), q.1⟩, ⟨⟨(by first | rfl | trivial), (show 294 < nc by omega), q.2.1⟩, ⟨⟨(by first | rfl | trivial), (show 270 < nc by omega)⟩, ⟨⟨(by first | rfl | trivial), (show 294 < nc by omega), q.2.2.1⟩, ⟨⟨(by first | rfl | trivial), (show 294 < nc by omega), q.2.2.2.1⟩, ⟨Nat.le_of_ble_eq_true rfl, Nat.le_of_ble_eq_true rfl, q.2.2.2.2⟩⟩⟩⟩⟩⟩⟩
set_option maxRecDepth 100000 in
theorem go_X9_toll_56 {nc : Nat} {C : tf_C} {Q : tf_Q} {h : LH} (hn : 297 ≤ nc) {x1 : Int32} {x2 : Int32} {x3 : Int32} {y1 : Int32} (q : C 104 [.ref (270), .int (y1), .int (x3)] h (fun r g => lx_X9_toll nc C Q 60 [.ref (270), .int (x1), .int (x2), .int (x3)] (r :: []) g)) : lx_X9_toll nc C Q 56 [.ref (270), .int (x1), .int (x2), .int (x3)] [.int (y1), .ref (270)] h := by
  refine tf_LW_go ?_
  exact ⟨Nat.le_of_ble_eq_true rfl, Nat.le_of_ble_eq_true rfl, q⟩
set_option maxRecDepth 100000 in
theorem go_X9_toll_60 {nc : Nat} {C : tf_C} {Q : tf_Q} {h : LH} (hn : 297 ≤ nc) {x1 : Int32} {x2 : Int32} {x3 : Int32} {y0 : Int32} (q : Q (.int (y0)) h) : lx_X9_toll nc C Q 60 [.ref (270), .int (x1), .int (x2), .int (x3)] [.int (y0)] h := by
  refine tf_LW_go ?_
  exact ⟨(by first | trivial | rfl), q⟩
abbrev lx_X9_bothOf (nc : Nat) (C : tf_C) (Q : tf_Q) : tf_X := tf_LW nc C (tf_F 7) (tf_M 7) (tf_I 7) (tf_Eh 107) 1 tb_X9_bothOf Q
set_option maxRecDepth 100000 in
theorem go_X9_bothOf_0 {nc : Nat} {C : tf_C} {Q : tf_Q} {h : LH} (hn : 297 ≤ nc) {x1 : Int32} (q : lx_X9_bothOf nc C Q 4 [.ref (270), .int (x1), .int (0), .int (0), tf_z] [] h) : lx_X9_bothOf nc C Q 0 [.ref (270), .int (x1), tf_z, tf_z, tf_z] [] h := by
  refine tf_LW_go ?_
  exact q
theorem en_X9_bothOf {nc d : Nat} {Q : tf_Q} {h : LH} (hn : 297 ≤ nc) {x1 : Int32} (q : lx_X9_bothOf nc (tf_Cd nc d) Q 0 [.ref (270), .int (x1), tf_z, tf_z, tf_z] [] h) : tf_Cd nc (d + 1) 107 [.ref (270), .int (x1)] h Q := by
  exact ⟨⟨Nat.le_of_ble_eq_true rfl, Or.inr ⟨rfl, (show 270 < nc by omega)⟩⟩, q⟩
set_option maxRecDepth 100000 in
theorem go_X9_bothOf_4 {nc : Nat} {C : tf_C} {Q : tf_Q} {h : LH} (hn : 297 ≤ nc) {x1 : Int32} {x2 : Int32} {x3 : Int32} (q : ((h.1 271 (0 : Int32).toNatClampNeg) ≤ x3 → lx_X9_bothOf nc C Q 45 [.ref (270), .int (x1), .int (x2), .int (x3), tf_z] [] h) ∧ (¬ (h.1 271 (0 : Int32).toNatClampNeg) ≤ x3 → (((x1 >>> (x3 &&& 31)) &&& 1) = (1 : Int32) → (vp_in (44 + x3) 865) ∧ lx_X9_bothOf nc C Q 37 [.ref (270), .int (x1), .int (x2), .int (x3), tf_z] [.int (h.1 271 (44 + x3 : Int32).toNatClampNeg), .int (x2)] h) ∧ (¬ ((x1 >>> (x3 &&& 31)) &&& 1) = (1 : Int32) → lx_X9_bothOf nc C Q 36 [.ref (270), .int (x1), .int (x2), .int (x3), tf_z] [.int (x2)] h))) : lx_X9_bothOf nc C Q 4 [.ref (270), .int (x1), .int (x2), .int (x3), tf_z] [] h := by
  refine tf_LW_go ?_
  exact ⟨⟨(by first | rfl | trivial), (show 270 < nc by omega)⟩, ⟨⟨(by first | rfl | trivial), (show 271 < nc by omega), (vp_in_iff.mpr (by decide))⟩, ⟨q.1, fun c2 => ⟨fun c1 => ⟨⟨(by first | rfl | trivial), (show 270 < nc by omega)⟩, ⟨⟨(by first | rfl | trivial), (show 271 < nc by omega), ((q.2 c2).1 c1).1⟩, ((q.2 c2).1 c1).2⟩⟩, (q.2 c2).2⟩⟩⟩⟩
set_option maxRecDepth 100000 in
theorem go_X9_bothOf_36 {nc : Nat} {C : tf_C} {Q : tf_Q} {h : LH} (hn : 297 ≤ nc) {x1 : Int32} {x2 : Int32} {x3 : Int32} {y0 : Int32} (q : lx_X9_bothOf nc C Q 37 [.ref (270), .int (x1), .int (x2), .int (x3), tf_z] [.int (0), .int (y0)] h) : lx_X9_bothOf nc C Q 36 [.ref (270), .int (x1), .int (x2), .int (x3), tf_z] [.int (y0)] h := by
  refine tf_LW_go ?_
  exact q
set_option maxRecDepth 100000 in
theorem go_X9_bothOf_37 {nc : Nat} {C : tf_C} {Q : tf_Q} {h : LH} (hn : 297 ≤ nc) {x1 : Int32} {x2 : Int32} {x3 : Int32} {y0 : Int32} {y1 : Int32} (q : lx_X9_bothOf nc C Q 4 [.ref (270), .int (x1), .int (y0 + y1), .int (x3 + 1), tf_z] [] h) : lx_X9_bothOf nc C Q 37 [.ref (270), .int (x1), .int (x2), .int (x3), tf_z] [.int (y1), .int (y0)] h := by
  refine tf_LW_go ?_
  exact q
set_option maxRecDepth 100000 in
theorem go_X9_bothOf_45 {nc : Nat} {C : tf_C} {Q : tf_Q} {h : LH} (hn : 297 ≤ nc) {x1 : Int32} {x2 : Int32} {x3 : Int32} (q : lx_X9_bothOf nc C Q 47 [.ref (270), .int (x1), .int (x2), .int (0), tf_z] [] h) : lx_X9_bothOf nc C Q 45 [.ref (270), .int (x1), .int (x2), .int (x3), tf_z] [] h := by
  refine tf_LW_go ?_
  exact q
set_option maxRecDepth 100000 in
theorem go_X9_bothOf_47 {nc : Nat} {C : tf_C} {Q : tf_Q} {h : LH} (hn : 297 ≤ nc) {x1 : Int32} {x2 : Int32} {x3 : Int32} {x4 : Value} (q : ((h.1 271 (1 : Int32).toNatClampNeg) ≤ x3 → lx_X9_bothOf nc C Q 125 [.ref (270), .int (x1), .int (x2), .int (x3), x4] [] h) ∧ (¬ (h.1 271 (1 : Int32).toNatClampNeg) ≤ x3 → C 3 [.ref (270), .int (x3), .int (0)] h (fun r g => lx_X9_bothOf nc C Q 64 [.ref (270), .int (x1), .int (x2), .int (x3), x4] (r :: [.int (x1)]) g))) : lx_X9_bothOf nc C Q 47 [.ref (270), .int (x1), .int (x2), .int (x3), x4] [] h := by
  refine tf_LW_go ?_
  exact ⟨⟨(by first | rfl | trivial), (show 270 < nc by omega)⟩, ⟨⟨(by first | rfl | trivial), (show 271 < nc by omega), (vp_in_iff.mpr (by decide))⟩, ⟨q.1, fun c1 => ⟨Nat.le_of_ble_eq_true rfl, Nat.le_of_ble_eq_true rfl, (q.2 c1)⟩⟩⟩⟩
set_option maxRecDepth 100000 in
theorem go_X9_bothOf_64 {nc : Nat} {C : tf_C} {Q : tf_Q} {h : LH} (hn : 297 ≤ nc) {x1 : Int32} {x2 : Int32} {x3 : Int32} {x4 : Value} {y0 : Int32} {y1 : Int32} (q : (((y0 >>> (y1 &&& 31)) &&& 1) = (1 : Int32) → C 3 [.ref (270), .int (x3), .int (1)] h (fun r g => lx_X9_bothOf nc C Q 78 [.ref (270), .int (x1), .int (x2), .int (x3), x4] (r :: [.int (x1)]) g)) ∧ (¬ ((y0 >>> (y1 &&& 31)) &&& 1) = (1 : Int32) → lx_X9_bothOf nc C Q 88 [.ref (270), .int (x1), .int (x2), .int (x3), x4] [] h)) : lx_X9_bothOf nc C Q 64 [.ref (270), .int (x1), .int (x2), .int (x3), x4] [.int (y1), .int (y0)] h := by
  refine tf_LW_go ?_
  exact ⟨fun c1 => ⟨Nat.le_of_ble_eq_true rfl, Nat.le_of_ble_eq_true rfl, (q.1 c1)⟩, q.2⟩
set_option maxRecDepth 100000 in
theorem go_X9_bothOf_78 {nc : Nat} {C : tf_C} {Q : tf_Q} {h : LH} (hn : 297 ≤ nc) {x1 : Int32} {x2 : Int32} {x3 : Int32} {x4 : Value} {y0 : Int32} {y1 : Int32} (q : (((y0 >>> (y1 &&& 31)) &&& 1) = (0 : Int32) → lx_X9_bothOf nc C Q 89 [.ref (270), .int (x1), .int (x2), .int (x3), x4] [.int (1)] h) ∧ (¬ ((y0 >>> (y1 &&& 31)) &&& 1) = (0 : Int32) → lx_X9_bothOf nc C Q 88 [.ref (270), .int (x1), .int (x2), .int (x3), x4] [] h)) : lx_X9_bothOf nc C Q 78 [.ref (270), .int (x1), .int (x2), .int (x3), x4] [.int (y1), .int (y0)] h := by
  refine tf_LW_go ?_
  exact ⟨fun c1 => (q.1 c1), q.2⟩
set_option maxRecDepth 100000 in
theorem go_X9_bothOf_88 {nc : Nat} {C : tf_C} {Q : tf_Q} {h : LH} (hn : 297 ≤ nc) {x1 : Int32} {x2 : Int32} {x3 : Int32} {x4 : Value} (q : lx_X9_bothOf nc C Q 89 [.ref (270), .int (x1), .int (x2), .int (x3), x4] [.int (0)] h) : lx_X9_bothOf nc C Q 88 [.ref (270), .int (x1), .int (x2), .int (x3), x4] [] h := by
  refine tf_LW_go ?_
  exact q
set_option maxRecDepth 100000 in
theorem go_X9_bothOf_89 {nc : Nat} {C : tf_C} {Q : tf_Q} {h : LH} (hn : 297 ≤ nc) {x1 : Int32} {x2 : Int32} {x3 : Int32} {x4 : Value} {y0 : Int32} (q : (y0 = (0 : Int32) → lx_X9_bothOf nc C Q 116 [.ref (270), .int (x1), .int (x2), .int (x3), .int (y0)] [.int (x2)] h) ∧ (¬ y0 = (0 : Int32) → C 3 [.ref (270), .int (x3), .int (6)] h (fun r g => lx_X9_bothOf nc C Q 104 [.ref (270), .int (x1), .int (x2), .int (x3), .int (y0)] (r :: [.int (x2)]) g))) : lx_X9_bothOf nc C Q 89 [.ref (270), .int (x1), .int (x2), .int (x3), x4] [.int (y0)] h := by
  refine tf_LW_go ?_
  exact ⟨q.1, fun c1 => ⟨Nat.le_of_ble_eq_true rfl, Nat.le_of_ble_eq_true rfl, (q.2 c1)⟩⟩
set_option maxRecDepth 100000 in
theorem go_X9_bothOf_104 {nc : Nat} {C : tf_C} {Q : tf_Q} {h : LH} (hn : 297 ≤ nc) {x1 : Int32} {x2 : Int32} {x3 : Int32} {x4 : Int32} {y0 : Int32} {y1 : Int32} (q : (y1 = (0 : Int32) → C 3 [.ref (270), .int (x3), .int (2)] h (fun r g => lx_X9_bothOf nc C Q 113 [.ref (270), .int (x1), .int (x2), .int (x3), .int (x4)] (r :: [.int (y0)]) g)) ∧ (¬ y1 = (0 : Int32) → lx_X9_bothOf nc C Q 116 [.ref (270), .int (x1), .int (x2), .int (x3), .int (x4)] [.int (y0)] h)) : lx_X9_bothOf nc C Q 104 [.ref (270), .int (x1), .int (x2), .int (x3), .int (x4)] [.int (y1), .int (y0)] h := by
  refine tf_LW_go ?_
  exact ⟨fun c1 => ⟨Nat.le_of_ble_eq_true rfl, Nat.le_of_ble_eq_true rfl, (q.1 c1)⟩, q.2⟩
set_option maxRecDepth 100000 in
theorem go_X9_bothOf_113 {nc : Nat} {C : tf_C} {Q : tf_Q} {h : LH} (hn : 297 ≤ nc) {x1 : Int32} {x2 : Int32} {x3 : Int32} {x4 : Int32} {y0 : Int32} {y1 : Int32} (q : lx_X9_bothOf nc C Q 117 [.ref (270), .int (x1), .int (x2), .int (x3), .int (x4)] [.int (y1), .int (y0)] h) : lx_X9_bothOf nc C Q 113 [.ref (270), .int (x1), .int (x2), .int (x3), .int (x4)] [.int (y1), .int (y0)] h := by
  refine tf_LW_go ?_
  exact q
set_option maxRecDepth 100000 in
theorem go_X9_bothOf_116 {nc : Nat} {C : tf_C} {Q : tf_Q} {h : LH} (hn : 297 ≤ nc) {x1 : Int32} {x2 : Int32} {x3 : Int32} {x4 : Int32} {y0 : Int32} (q : lx_X9_bothOf nc C Q 117 [.ref (270), .int (x1), .int (x2), .int (x3), .int (x4)] [.int (0), .int (y0)] h) : lx_X9_bothOf nc C Q 116 [.ref (270), .int (x1), .int (x2), .int (x3), .int (x4)] [.int (y0)] h := by
  refine tf_LW_go ?_
  exact q
set_option maxRecDepth 100000 in
theorem go_X9_bothOf_117 {nc : Nat} {C : tf_C} {Q : tf_Q} {h : LH} (hn : 297 ≤ nc) {x1 : Int32} {x2 : Int32} {x3 : Int32} {x4 : Int32} {y0 : Int32} {y1 : Int32} (q : lx_X9_bothOf nc C Q 47 [.ref (270), .int (x1), .int (y0 - y1), .int (x3 + 1), .int (x4)] [] h) : lx_X9_bothOf nc C Q 117 [.ref (270), .int (x1), .int (x2), .int (x3), .int (x4)] [.int (y1), .int (y0)] h := by
  refine tf_LW_go ?_
  exact q
set_option maxRecDepth 100000 in
theorem go_X9_bothOf_125 {nc : Nat} {C : tf_C} {Q : tf_Q} {h : LH} (hn : 297 ≤ nc) {x1 : Int32} {x2 : Int32} {x3 : Int32} {x4 : Value} (q : Q (.int (x2)) h) : lx_X9_bothOf nc C Q 125 [.ref (270), .int (x1), .int (x2), .int (x3), x4] [] h := by
  refine tf_LW_go ?_
  exact ⟨(by first | trivial | rfl), q⟩
abbrev lx_X9_ones (nc : Nat) (C : tf_C) (Q : tf_Q) : tf_X := tf_LW nc C (tf_F 7) (tf_M 7) (tf_I 7) (tf_Eh 108) 1 tb_X9_ones Q
set_option maxRecDepth 100000 in
theorem go_X9_ones_0 {nc : Nat} {C : tf_C} {Q : tf_Q} {h : LH} (hn : 297 ≤ nc) {x0 : Int32} (q : lx_X9_ones nc C Q 4 [.int (x0), .int (0), .int (0)] [] h) : lx_X9_ones nc C Q 0 [.int (x0), tf_z, tf_z] [] h := by
  refine tf_LW_go ?_
  exact q
theorem en_X9_ones {nc d : Nat} {Q : tf_Q} {h : LH} (hn : 297 ≤ nc) {x0 : Int32} (q : lx_X9_ones nc (tf_Cd nc d) Q 0 [.int (x0), tf_z, tf_z] [] h) : tf_Cd nc (d + 1) 108 [.int (x0)] h Q := by
  exact ⟨⟨Nat.le_of_ble_eq_true rfl, Or.inl rfl⟩, q⟩
set_option maxRecDepth 100000 in
theorem go_X9_ones_4 {nc : Nat} {C : tf_C} {Q : tf_Q} {h : LH} (hn : 297 ≤ nc) {x0 : Int32} {x1 : Int32} {x2 : Int32} (q : ((7 : Int32) ≤ x2 → lx_X9_ones nc C Q 24 [.int (x0), .int (x1), .int (x2)] [] h) ∧ (¬ (7 : Int32) ≤ x2 → lx_X9_ones nc C Q 4 [.int (x0), .int (x1 + ((x0 >>> (x2 &&& 31)) &&& 1)), .int (x2 + 1)] [] h)) : lx_X9_ones nc C Q 4 [.int (x0), .int (x1), .int (x2)] [] h := by
  refine tf_LW_go ?_
  exact ⟨q.1, fun c1 => (q.2 c1)⟩
set_option maxRecDepth 100000 in
theorem go_X9_ones_24 {nc : Nat} {C : tf_C} {Q : tf_Q} {h : LH} (hn : 297 ≤ nc) {x0 : Int32} {x1 : Int32} {x2 : Int32} (q : Q (.int (x1)) h) : lx_X9_ones nc C Q 24 [.int (x0), .int (x1), .int (x2)] [] h := by
  refine tf_LW_go ?_
  exact ⟨(by first | trivial | rfl), q⟩
abbrev lx_X9_cut (nc : Nat) (C : tf_C) (Q : tf_Q) : tf_X := tf_LW nc C (tf_F 7) (tf_M 7) (tf_I 7) (tf_Eh 109) 1 tb_X9_cut Q
set_option maxRecDepth 100000 in
theorem go_X9_cut_0 {nc : Nat} {C : tf_C} {Q : tf_Q} {h : LH} (hn : 297 ≤ nc) (q : lx_X9_cut nc C Q 9 [.ref (270), .int (0), .int (1), tf_z] [] (tf_up h.1 270 0 0, h.2)) : lx_X9_cut nc C Q 0 [.ref (270), tf_z, tf_z, tf_z] [] h := by
  refine tf_LW_go ?_
  exact ⟨⟨(by first | rfl | trivial), (show 270 < nc by omega), (by first | rfl | trivial)⟩, q⟩
theorem en_X9_cut {nc d : Nat} {Q : tf_Q} {h : LH} (hn : 297 ≤ nc) (q : lx_X9_cut nc (tf_Cd nc d) Q 0 [.ref (270), tf_z, tf_z, tf_z] [] h) : tf_Cd nc (d + 1) 109 [.ref (270)] h Q := by
  exact ⟨⟨Nat.le_of_ble_eq_true rfl, Or.inr ⟨rfl, (show 270 < nc by omega)⟩⟩, q⟩
set_option maxRecDepth 100000 in
theorem go_X9_cut_9 {nc : Nat} {C : tf_C} {Q : tf_Q} {h : LH} (hn : 297 ≤ nc) {x1 : Int32} {x2 : Int32} {x3 : Value} (q : ((1 <<< (h.1 271 (0 : Int32).toNatClampNeg &&& 31)) ≤ x2 → lx_X9_cut nc C Q 64 [.ref (270), .int (x1), .int (x2), x3] [] h) ∧ (¬ (1 <<< (h.1 271 (0 : Int32).toNatClampNeg &&& 31)) ≤ x2 → C 107 [.ref (270), .int (x2)] h (fun r g => lx_X9_cut nc C Q 26 [.ref (270), .int (x1), .int (x2), x3] (r :: []) g))) : lx_X9_cut nc C Q 9 [.ref (270), .int (x1), .int (x2), x3] [] h := by
  refine tf_LW_go ?_
  exact ⟨⟨(by first | rfl | trivial), (show 270 < nc by omega)⟩, ⟨⟨(by first | rfl | trivial), (show 271 < nc by omega), (vp_in_iff.mpr (by decide))⟩, ⟨q.1, fun c1 => ⟨Nat.le_of_ble_eq_true rfl, Nat.le_of_ble_eq_true rfl, (q.2 c1)⟩⟩⟩⟩
set_option maxRecDepth 100000 in
theorem go_X9_cut_26 {nc : Nat} {C : tf_C} {Q : tf_Q} {h : LH} (hn : 297 ≤ nc) {x1 : Int32} {x2 : Int32} {x3 : Value} {y0 : Int32} (q : C 107 [.ref (270), .int (x1)] h (fun r g => lx_X9_cut nc C Q 31 [.ref (270), .int (x1), .int (x2), x3] (r :: [.int (y0)]) g)) : lx_X9_cut nc C Q 26 [.ref (270), .int (x1), .int (x2), x3] [.int (y0)] h := by
  refine tf_LW_go ?_
  exact ⟨Nat.le_of_ble_eq_true rfl, Nat.le_of_ble_eq_true rfl, q⟩
set_option maxRecDepth 100000 in
theorem go_X9_cut_31 {nc : Nat} {C : tf_C} {Q : tf_Q} {h : LH} (hn : 297 ≤ nc) {x1 : Int32} {x2 : Int32} {x3 : Value} {y0 : Int32} {y1 : Int32} (q : ((0 : Int32) < (y0 - y1) → lx_X9_cut nc C Q 52 [.ref (270), .int (x1), .int (x2), .int (y0 - y1)] [] h) ∧ (¬ (0 : Int32) < (y0 - y1) → ((y0 - y1) = (0 : Int32) → C 108 [.int (x2)] h (fun r g => lx_X9_cut nc C Q 45 [.ref (270), .int (x1), .int (x2), .int (y0 - y1)] (r :: []) g)) ∧ (¬ (y0 - y1) = (0 : Int32) → lx_X9_cut nc C Q 56 [.ref (270), .int (x1), .int (x2), .int (y0 - y1)] [] h))) : lx_X9_cut nc C Q 31 [.ref (270), .int (x1), .int (x2), x3] [.int (y1), .int (y0)] h := by
  refine tf_LW_go ?_
  exact ⟨q.1, fun c2 => ⟨fun c1 => ⟨Nat.le_of_ble_eq_true rfl, Nat.le_of_ble_eq_true rfl, ((q.2 c2).1 c1)⟩, (q.2 c2).2⟩⟩
set_option maxRecDepth 100000 in
theorem go_X9_cut_45 {nc : Nat} {C : tf_C} {Q : tf_Q} {h : LH} (hn : 297 ≤ nc) {x1 : Int32} {x2 : Int32} {x3 : Int32} {y0 : Int32} (q : C 108 [.int (x1)] h (fun r g => lx_X9_cut nc C Q 49 [.ref (270), .int (x1), .int (x2), .int (x3)] (r :: [.int (y0)]) g)) : lx_X9_cut nc C Q 45 [.ref (270), .int (x1), .int (x2), .int (x3)] [.int (y0)] h := by
  refine tf_LW_go ?_
  exact ⟨Nat.le_of_ble_eq_true rfl, Nat.le_of_ble_eq_true rfl, q⟩
set_option maxRecDepth 100000 in
theorem go_X9_cut_49 {nc : Nat} {C : tf_C} {Q : tf_Q} {h : LH} (hn : 297 ≤ nc) {x1 : Int32} {x2 : Int32} {x3 : Int32} {y0 : Int32} {y1 : Int32} (q : (y1 ≤ y0 → lx_X9_cut nc C Q 56 [.ref (270), .int (x1), .int (x2), .int (x3)] [] h) ∧ (¬ y1 ≤ y0 → lx_X9_cut nc C Q 52 [.ref (270), .int (x1), .int (x2), .int (x3)] [] h)) : lx_X9_cut nc C Q 49 [.ref (270), .int (x1), .int (x2), .int (x3)] [.int (y1), .int (y0)] h := by
  refine tf_LW_go ?_
  exact ⟨q.1, fun c1 => (q.2 c1)⟩
set_option maxRecDepth 100000 in
theorem go_X9_cut_52 {nc : Nat} {C : tf_C} {Q : tf_Q} {h : LH} (hn : 297 ≤ nc) {x1 : Int32} {x2 : Int32} {x3 : Int32} (q : lx_X9_cut nc C Q 57 [.ref (270), .int (x1), .int (x2), .int (x3)] [.int (x2)] h) : lx_X9_cut nc C Q 52 [.ref (270), .int (x1), .int (x2), .int (x3)] [] h := by
  refine tf_LW_go ?_
  exact q
set_option maxRecDepth 100000 in
theorem go_X9_cut_56 {nc : Nat} {C : tf_C} {Q : tf_Q} {h : LH} (hn : 297 ≤ nc) {x1 : Int32} {x2 : Int32} {x3 : Int32} (q : lx_X9_cut nc C Q 57 [.ref (270), .int (x1), .int (x2), .int (x3)] [.int (x1)] h) : lx_X9_cut nc C Q 56 [.ref (270), .int (x1), .int (x2), .int (x3)] [] h := by
  refine tf_LW_go ?_
  exact q
set_option maxRecDepth 100000 in
theorem go_X9_cut_57 {nc : Nat} {C : tf_C} {Q : tf_Q} {h : LH} (hn : 297 ≤ nc) {x1 : Int32} {x2 : Int32} {x3 : Int32} {y0 : Int32} (q : lx_X9_cut nc C Q 9 [.ref (270), .int (y0), .int (x2 + 1), .int (x3)] [] h) : lx_X9_cut nc C Q 57 [.ref (270), .int (x1), .int (x2), .int (x3)] [.int (y0)] h := by
  refine tf_LW_go ?_
  exact q
set_option maxRecDepth 100000 in
theorem go_X9_cut_64 {nc : Nat} {C : tf_C} {Q : tf_Q} {h : LH} (hn : 297 ≤ nc) {x1 : Int32} {x2 : Int32} {x3 : Value} (q : Q (.int (x1)) h) : lx_X9_cut nc C Q 64 [.ref (270), .int (x1), .int (x2), x3] [] h := by
  refine tf_LW_go ?_
  exact ⟨(by first | trivial | rfl), q⟩
abbrev lx_X9_lack (nc : Nat) (C : tf_C) (Q : tf_Q) : tf_X := tf_LW nc C (tf_F 7) (tf_M 7) (tf_I 7) (tf_Eh 110) 1 tb_X9_lack Q
set_option maxRecDepth 100000 in
theorem go_X9_lack_0 {nc : Nat} {C : tf_C} {Q : tf_Q} {h : LH} (hn : 297 ≤ nc) (q : lx_X9_lack nc C Q 9 [.ref (270), .int (0), .int (1)] [] (tf_up h.1 270 0 0, h.2)) : lx_X9_lack nc C Q 0 [.ref (270), tf_z, tf_z] [] h := by
  refine tf_LW_go ?_
  exact ⟨⟨(by first | rfl | trivial), (show 270 < nc by omega), (by first | rfl | trivial)⟩, q⟩
theorem en_X9_lack {nc d : Nat} {Q : tf_Q} {h : LH} (hn : 297 ≤ nc) (q : lx_X9_lack nc (tf_Cd nc d) Q 0 [.ref (270), tf_z, tf_z] [] h) : tf_Cd nc (d + 1) 110 [.ref (270)] h Q := by
  exact ⟨⟨Nat.le_of_ble_eq_true rfl, Or.inr ⟨rfl, (show 270 < nc by omega)⟩⟩, q⟩
set_option maxRecDepth 100000 in
theorem go_X9_lack_9 {nc : Nat} {C : tf_C} {Q : tf_Q} {h : LH} (hn : 297 ≤ nc) {x1 : Int32} {x2 : Int32} (q : ((1 <<< (h.1 271 (0 : Int32).toNatClampNeg &&& 31)) ≤ x2 → lx_X9_lack nc C Q 37 [.ref (270), .int (x1), .int (x2)] [] h) ∧ (¬ (1 <<< (h.1 271 (0 : Int32).toNatClampNeg &&& 31)) ≤ x2 → C 107 [.ref (270), .int (x2)] h (fun r g => lx_X9_lack nc C Q 27 [.ref (270), .int (x1), .int (x2)] (r :: [.int (x1)]) g))) : lx_X9_lack nc C Q 9 [.ref (270), .int (x1), .int (x2)] [] h := by
  refine tf_LW_go ?_
  exact ⟨⟨(by first | rfl | trivial), (show 270 < nc by omega)⟩, ⟨⟨(by first | rfl | trivial), (show 271 < nc by omega), (vp_in_iff.mpr (by decide))⟩, ⟨q.1, fun c1 => ⟨Nat.le_of_ble_eq_true rfl, Nat.le_of_ble_eq_true rfl, (q.2 c1)⟩⟩⟩⟩
set_option maxRecDepth 100000 in
theorem go_X9_lack_27 {nc : Nat} {C : tf_C} {Q : tf_Q} {h : LH} (hn : 297 ≤ nc) {x1 : Int32} {x2 : Int32} {y0 : Int32} {y1 : Int32} (q : C 2 [.int (y0), .int (y1)] h (fun r g => lx_X9_lack nc C Q 30 [.ref (270), .int (x1), .int (x2)] (r :: []) g)) : lx_X9_lack nc C Q 27 [.ref (270), .int (x1), .int (x2)] [.int (y1), .int (y0)] h := by
  refine tf_LW_go ?_
  exact ⟨Nat.le_of_ble_eq_true rfl, Nat.le_of_ble_eq_true rfl, q⟩
set_option maxRecDepth 100000 in
theorem go_X9_lack_30 {nc : Nat} {C : tf_C} {Q : tf_Q} {h : LH} (hn : 297 ≤ nc) {x1 : Int32} {x2 : Int32} {y0 : Int32} (q : lx_X9_lack nc C Q 9 [.ref (270), .int (y0), .int (x2 + 1)] [] h) : lx_X9_lack nc C Q 30 [.ref (270), .int (x1), .int (x2)] [.int (y0)] h := by
  refine tf_LW_go ?_
  exact q
set_option maxRecDepth 100000 in
theorem go_X9_lack_37 {nc : Nat} {C : tf_C} {Q : tf_Q} {h : LH} (hn : 297 ≤ nc) {x1 : Int32} {x2 : Int32} (q : Q (.int (2 * x1)) h) : lx_X9_lack nc C Q 37 [.ref (270), .int (x1), .int (x2)] [] h := by
  refine tf_LW_go ?_
  exact ⟨(by first | trivial | rfl), q⟩
abbrev lx_X9_steps (nc : Nat) (C : tf_C) (Q : tf_Q) : tf_X := tf_LW nc C (tf_F 7) (tf_M 7) (tf_I 7) (tf_Eh 111) 1 tb_X9_steps Q
set_option maxRecDepth 100000 in
theorem go_X9_steps_0 {nc : Nat} {C : tf_C} {Q : tf_Q} {h : LH} (hn : 297 ≤ nc) {x1 : Int32} (q : C 0 [.int (x1), .int (0), .int (2)] (tf_up h.1 270 0 0, h.2) (fun r g => lx_X9_steps nc C Q 11 [.ref (270), .int (x1), tf_z] (r :: []) g)) : lx_X9_steps nc C Q 0 [.ref (270), .int (x1), tf_z] [] h := by
  refine tf_LW_go ?_
  exact ⟨⟨(by first | rfl | trivial), (show 270 < nc by omega), (by first | rfl | trivial)⟩, ⟨Nat.le_of_ble_eq_true rfl, Nat.le_of_ble_eq_true rfl, q⟩⟩
theorem en_X9_steps {nc d : Nat} {Q : tf_Q} {h : LH} (hn : 297 ≤ nc) {x1 : Int32} (q : lx_X9_steps nc (tf_Cd nc d) Q 0 [.ref (270), .int (x1), tf_z] [] h) : tf_Cd nc (d + 1) 111 [.ref (270), .int (x1)] h Q := by
  exact ⟨⟨Nat.le_of_ble_eq_true rfl, Or.inr ⟨rfl, (show 270 < nc by omega)⟩⟩, q⟩
set_option maxRecDepth 100000 in
theorem go_X9_steps_11 {nc : Nat} {C : tf_C} {Q : tf_Q} {h : LH} (hn : 297 ≤ nc) {x1 : Int32} {y0 : Int32} (q : (y0 = (0 : Int32) → Q (.int ((-1))) h) ∧ (¬ y0 = (0 : Int32) → lx_X9_steps nc C Q 16 [.ref (270), .int (x1), tf_z] [] h)) : lx_X9_steps nc C Q 11 [.ref (270), .int (x1), tf_z] [.int (y0)] h := by
  refine tf_LW_go ?_
  exact ⟨fun c1 => ⟨(by first | trivial | rfl), (q.1 c1)⟩, q.2⟩
set_option maxRecDepth 100000 in
theorem go_X9_steps_16 {nc : Nat} {C : tf_C} {Q : tf_Q} {h : LH} (hn : 297 ≤ nc) {x1 : Int32} (q : C 112 [.ref (270), .int (0), .int (4)] h (fun r g => lx_X9_steps nc C Q 22 [.ref (270), .int (x1), tf_z] [] g)) : lx_X9_steps nc C Q 16 [.ref (270), .int (x1), tf_z] [] h := by
  refine tf_LW_go ?_
  exact ⟨Nat.le_of_ble_eq_true rfl, Nat.le_of_ble_eq_true rfl, q⟩
set_option maxRecDepth 100000 in
theorem go_X9_steps_22 {nc : Nat} {C : tf_C} {Q : tf_Q} {h : LH} (hn : 297 ≤ nc) {x1 : Int32} (q : C 50 [.ref (270), .int (10000)] (tf_up h.1 271 (2 : Int32).toNatClampNeg x1, h.2) (fun r g => lx_X9_steps nc C Q 36 [.ref (270), .int (x1), tf_z] (r :: []) g)) : lx_X9_steps nc C Q 22 [.ref (270), .int (x1), tf_z] [] h := by
  refine tf_LW_go ?_
  exact ⟨⟨(by first | rfl | trivial), (show 270 < nc by omega)⟩, ⟨⟨(by first | rfl | trivial), (show 271 < nc by omega), (vp_in_iff.mpr (by decide))⟩, ⟨Nat.le_of_ble_eq_true rfl, Nat.le_of_ble_eq_true rfl, q⟩⟩⟩
set_option maxRecDepth 100000 in
theorem go_X9_steps_36 {nc : Nat} {C : tf_C} {Q : tf_Q} {h : LH} (hn : 297 ≤ nc) {x1 : Int32} {y0 : Int32} (q : C 112 [.ref (270), .int (4), .int (0)] h (fun r g => lx_X9_steps nc C Q 43 [.ref (270), .int (x1), .int (y0)] [] g)) : lx_X9_steps nc C Q 36 [.ref (270), .int (x1), tf_z] [.int (y0)] h := by
  refine tf_LW_go ?_
  exact ⟨Nat.le_of_ble_eq_true rfl, Nat.le_of_ble_eq_true rfl, q⟩
set_option maxRecDepth 100000 in
theorem go_X9_steps_43 {nc : Nat} {C : tf_C} {Q : tf_Q} {h : LH} (hn : 297 ≤ nc) {x1 : Int32} {x2 : Int32} (q : Q (.int (x2)) h) : lx_X9_steps nc C Q 43 [.ref (270), .int (x1), .int (x2)] [] h := by
  refine tf_LW_go ?_
  exact ⟨(by first | trivial | rfl), q⟩
abbrev lx_X9_copies (nc : Nat) (C : tf_C) (Q : tf_Q) : tf_X := tf_LW nc C (tf_F 7) (tf_M 7) (tf_I 7) (tf_Eh 112) 0 tb_X9_copies Q
set_option maxRecDepth 100000 in
theorem go_X9_copies_0 {nc : Nat} {C : tf_C} {Q : tf_Q} {h : LH} (hn : 297 ≤ nc) {x1 : Int32} {x2 : Int32} (q : lx_X9_copies nc C Q 2 [.ref (270), .int (x1), .int (x2), .int (0)] [] h) : lx_X9_copies nc C Q 0 [.ref (270), .int (x1), .int (x2), tf_z] [] h := by
  refine tf_LW_go ?_
  exact q
theorem en_X9_copies {nc d : Nat} {Q : tf_Q} {h : LH} (hn : 297 ≤ nc) {x1 : Int32} {x2 : Int32} (q : lx_X9_copies nc (tf_Cd nc d) Q 0 [.ref (270), .int (x1), .int (x2), tf_z] [] h) : tf_Cd nc (d + 1) 112 [.ref (270), .int (x1), .int (x2)] h Q := by
  exact ⟨⟨Nat.le_of_ble_eq_true rfl, Or.inr ⟨rfl, (show 270 < nc by omega)⟩⟩, q⟩
set_option maxRecDepth 100000 in
theorem go_X9_copies_2 {nc : Nat} {C : tf_C} {Q : tf_Q} {h : LH} (hn : 297 ≤ nc) {x1 : Int32} {x2 : Int32} {x3 : Int32} (q : ((173 : Int32) ≤ x3 → lx_X9_copies nc C Q 39 [.ref (270), .int (x1), .int (x2), .int (x3)] [] h) ∧ (¬ (173 : Int32) ≤ x3 → (vp_in ((173 * x1) + x3) 865) ∧ (vp_in ((173 * x2) + x3) 865) ∧ lx_X9_copies nc C Q 2 [.ref (270), .int (x1), .int (x2), .int (x3 + 1)] [] (tf_up h.1 271 ((173 * x2) + x3 : Int32).toNatClampNeg (h.1 271 ((173 * x1) + x3 : Int32).toNatClampNeg), h.2))) : lx_X9_copies nc C Q 2 [.ref (270), .int (x1), .int (x2), .int (x3)] [] h := by
  refine tf_LW_go ?_
  exact ⟨q.1, fun c1 => ⟨⟨(by first | rfl | trivial), (show 270 < nc by omega)⟩, ⟨⟨(by first | rfl | trivial), (show 270 < nc by omega)⟩, ⟨⟨(by first | rfl | trivial), (show 271 < nc by omega), (q.2 c1).1⟩, ⟨⟨(by first | rfl | trivial), (show 271 < nc by omega), (q.2 c1).2.1⟩, (q.2 c1).2.2⟩⟩⟩⟩⟩
set_option maxRecDepth 100000 in
theorem go_X9_copies_39 {nc : Nat} {C : tf_C} {Q : tf_Q} {h : LH} (hn : 297 ≤ nc) {x1 : Int32} {x2 : Int32} {x3 : Int32} (q : Q tf_z h) : lx_X9_copies nc C Q 39 [.ref (270), .int (x1), .int (x2), .int (x3)] [] h := by
  refine tf_LW_go ?_
  exact ⟨(by first | rfl | trivial), q⟩
abbrev lx_X9_copiesText (nc : Nat) (C : tf_C) (Q : tf_Q) : tf_X := tf_LW nc C (tf_F 7) (tf_M 7) (tf_I 7) (tf_Eh 113) 0 tb_X9_copiesText Q
set_option maxRecDepth 100000 in
theorem go_X9_copiesText_0 {nc : Nat} {C : tf_C} {Q : tf_Q} {h : LH} (hn : 297 ≤ nc) {x1 : Int32} {x2 : Int32} (q : C 112 [.ref (270), .int (x1), .int (x2)] h (fun r g => lx_X9_copiesText nc C Q 6 [.ref (270), .int (x1), .int (x2), tf_z] [] g)) : lx_X9_copiesText nc C Q 0 [.ref (270), .int (x1), .int (x2), tf_z] [] h := by
  refine tf_LW_go ?_
  exact ⟨Nat.le_of_ble_eq_true rfl, Nat.le_of_ble_eq_true rfl, q⟩
theorem en_X9_copiesText {nc d : Nat} {Q : tf_Q} {h : LH} (hn : 297 ≤ nc) {x1 : Int32} {x2 : Int32} (q : lx_X9_copiesText nc (tf_Cd nc d) Q 0 [.ref (270), .int (x1), .int (x2), tf_z] [] h) : tf_Cd nc (d + 1) 113 [.ref (270), .int (x1), .int (x2)] h Q := by
  exact ⟨⟨Nat.le_of_ble_eq_true rfl, Or.inr ⟨rfl, (show 270 < nc by omega)⟩⟩, q⟩
set_option maxRecDepth 100000 in
theorem go_X9_copiesText_6 {nc : Nat} {C : tf_C} {Q : tf_Q} {h : LH} (hn : 297 ≤ nc) {x1 : Int32} {x2 : Int32} (q : lx_X9_copiesText nc C Q 8 [.ref (270), .int (x1), .int (x2), .int (0)] [] h) : lx_X9_copiesText nc C Q 6 [.ref (270), .int (x1), .int (x2), tf_z] [] h := by
  refine tf_LW_go ?_
  exact q
set_option maxRecDepth 100000 in
theorem go_X9_copiesText_8 {nc : Nat} {C : tf_C} {Q : tf_Q} {h : LH} (hn : 297 ≤ nc) {x1 : Int32} {x2 : Int32} {x3 : Int32} (q : ((400 : Int32) ≤ x3 → lx_X9_copiesText nc C Q 45 [.ref (270), .int (x1), .int (x2), .int (x3)] [] h) ∧ (¬ (400 : Int32) ≤ x3 → (vp_in ((400 * x1) + x3) 1600) ∧ (vp_in ((400 * x2) + x3) 1600) ∧ lx_X9_copiesText nc C Q 8 [.ref (270), .int (x1), .int (x2), .int (x3 + 1)] [] (tf_up h.1 272 ((400 * x2) + x3 : Int32).toNatClampNeg (vp_nar .byte (h.1 272 ((400 * x1) + x3 : Int32).toNatClampNeg)), h.2))) : lx_X9_copiesText nc C Q 8 [.ref (270), .int (x1), .int (x2), .int (x3)] [] h := by
  refine tf_LW_go ?_
  exact ⟨q.1, fun c1 => ⟨⟨(by first | rfl | trivial), (show 270 < nc by omega)⟩, ⟨⟨(by first | rfl | trivial), (show 270 < nc by omega)⟩, ⟨⟨(Or.inl (by first | rfl | trivial)), (show 272 < nc by omega), (q.2 c1).1⟩, ⟨⟨(show 272 < nc by omega), (q.2 c1).2.1⟩, Or.inl ⟨(by first | rfl | trivial), (q.2 c1).2.2⟩⟩⟩⟩⟩⟩
set_option maxRecDepth 100000 in
theorem go_X9_copiesText_45 {nc : Nat} {C : tf_C} {Q : tf_Q} {h : LH} (hn : 297 ≤ nc) {x1 : Int32} {x2 : Int32} {x3 : Int32} (q : Q tf_z h) : lx_X9_copiesText nc C Q 45 [.ref (270), .int (x1), .int (x2), .int (x3)] [] h := by
  refine tf_LW_go ?_
  exact ⟨(by first | rfl | trivial), q⟩
abbrev lx_X9_image (nc : Nat) (C : tf_C) (Q : tf_Q) : tf_X := tf_LW nc C (tf_F 7) (tf_M 7) (tf_I 7) (tf_Eh 114) 2 tb_X9_image Q
set_option maxRecDepth 100000 in
theorem go_X9_image_0 {nc : Nat} {C : tf_C} {Q : tf_Q} {h : LH} (hn : 297 ≤ nc) {x1 : Int32} (q : C 0 [.int (x1), .int (0), .int (2)] (tf_up h.1 270 0 0, h.2) (fun r g => lx_X9_image nc C Q 11 [.ref (270), .int (x1)] (r :: []) g)) : lx_X9_image nc C Q 0 [.ref (270), .int (x1)] [] h := by
  refine tf_LW_go ?_
  exact ⟨⟨(by first | rfl | trivial), (show 270 < nc by omega), (by first | rfl | trivial)⟩, ⟨Nat.le_of_ble_eq_true rfl, Nat.le_of_ble_eq_true rfl, q⟩⟩
theorem en_X9_image {nc d : Nat} {Q : tf_Q} {h : LH} (hn : 297 ≤ nc) {x1 : Int32} (q : lx_X9_image nc (tf_Cd nc d) Q 0 [.ref (270), .int (x1)] [] h) : tf_Cd nc (d + 1) 114 [.ref (270), .int (x1)] h Q := by
  exact ⟨⟨Nat.le_of_ble_eq_true rfl, Or.inr ⟨rfl, (show 270 < nc by omega)⟩⟩, q⟩
set_option maxRecDepth 100000 in
theorem go_X9_image_11 {nc : Nat} {C : tf_C} {Q : tf_Q} {h : LH} (hn : 297 ≤ nc) {x1 : Int32} {y0 : Int32} (q : (y0 = (0 : Int32) → Q (.int (0)) h) ∧ (¬ y0 = (0 : Int32) → lx_X9_image nc C Q 16 [.ref (270), .int (x1)] [] h)) : lx_X9_image nc C Q 11 [.ref (270), .int (x1)] [.int (y0)] h := by
  refine tf_LW_go ?_
  exact ⟨fun c1 => ⟨(by first | rfl | trivial), (q.1 c1)⟩, q.2⟩
set_option maxRecDepth 100000 in
theorem go_X9_image_16 {nc : Nat} {C : tf_C} {Q : tf_Q} {h : LH} (hn : 297 ≤ nc) {x1 : Int32} (q : C 113 [.ref (270), .int (0), .int (x1 + 1)] h (fun r g => lx_X9_image nc C Q 24 [.ref (270), .int (x1)] [] g)) : lx_X9_image nc C Q 16 [.ref (270), .int (x1)] [] h := by
  refine tf_LW_go ?_
  exact ⟨Nat.le_of_ble_eq_true rfl, Nat.le_of_ble_eq_true rfl, q⟩
set_option maxRecDepth 100000 in
theorem go_X9_image_24 {nc : Nat} {C : tf_C} {Q : tf_Q} {h : LH} (hn : 297 ≤ nc) {x1 : Int32} (q : (vp_in x1 3) ∧ Q (.int (1)) (tf_up h.1 273 (x1 : Int32).toNatClampNeg (vp_nar .boolean 1), h.2)) : lx_X9_image nc C Q 24 [.ref (270), .int (x1)] [] h := by
  refine tf_LW_go ?_
  exact ⟨⟨(by first | rfl | trivial), (show 270 < nc by omega)⟩, ⟨⟨(show 273 < nc by omega), q.1⟩, Or.inr ⟨(by first | rfl | trivial), ⟨(by first | rfl | trivial), q.2⟩⟩⟩⟩
abbrev lx_X9_again (nc : Nat) (C : tf_C) (Q : tf_Q) : tf_X := tf_LW nc C (tf_F 7) (tf_M 7) (tf_I 7) (tf_Eh 115) 2 tb_X9_again Q
set_option maxRecDepth 100000 in
theorem go_X9_again_0 {nc : Nat} {C : tf_C} {Q : tf_Q} {h : LH} (hn : 297 ≤ nc) {x1 : Int32} (q : C 0 [.int (x1), .int (0), .int (2)] (tf_up h.1 270 0 0, h.2) (fun r g => lx_X9_again nc C Q 11 [.ref (270), .int (x1)] (r :: []) g)) : lx_X9_again nc C Q 0 [.ref (270), .int (x1)] [] h := by
  refine tf_LW_go ?_
  exact ⟨⟨(by first | rfl | trivial), (show 270 < nc by omega), (by first | rfl | trivial)⟩, ⟨Nat.le_of_ble_eq_true rfl, Nat.le_of_ble_eq_true rfl, q⟩⟩
theorem en_X9_again {nc d : Nat} {Q : tf_Q} {h : LH} (hn : 297 ≤ nc) {x1 : Int32} (q : lx_X9_again nc (tf_Cd nc d) Q 0 [.ref (270), .int (x1)] [] h) : tf_Cd nc (d + 1) 115 [.ref (270), .int (x1)] h Q := by
  exact ⟨⟨Nat.le_of_ble_eq_true rfl, Or.inr ⟨rfl, (show 270 < nc by omega)⟩⟩, q⟩
set_option maxRecDepth 100000 in
theorem go_X9_again_11 {nc : Nat} {C : tf_C} {Q : tf_Q} {h : LH} (hn : 297 ≤ nc) {x1 : Int32} {y0 : Int32} (q : (y0 = (0 : Int32) → lx_X9_again nc C Q 23 [.ref (270), .int (x1)] [] h) ∧ (¬ y0 = (0 : Int32) → (vp_in x1 3) ∧ ((h.1 273 (x1 : Int32).toNatClampNeg) = (0 : Int32) → lx_X9_again nc C Q 23 [.ref (270), .int (x1)] [] h) ∧ (¬ (h.1 273 (x1 : Int32).toNatClampNeg) = (0 : Int32) → lx_X9_again nc C Q 25 [.ref (270), .int (x1)] [] h))) : lx_X9_again nc C Q 11 [.ref (270), .int (x1)] [.int (y0)] h := by
  refine tf_LW_go ?_
  exact ⟨q.1, fun c2 => ⟨⟨(by first | rfl | trivial), (show 270 < nc by omega)⟩, ⟨⟨(Or.inr (by first | rfl | trivial)), (show 273 < nc by omega), (q.2 c2).1⟩, ⟨fun c1 => ((q.2 c2).2.1 c1), (q.2 c2).2.2⟩⟩⟩⟩
set_option maxRecDepth 100000 in
theorem go_X9_again_23 {nc : Nat} {C : tf_C} {Q : tf_Q} {h : LH} (hn : 297 ≤ nc) {x1 : Int32} (q : Q (.int (0)) h) : lx_X9_again nc C Q 23 [.ref (270), .int (x1)] [] h := by
  refine tf_LW_go ?_
  exact ⟨(by first | rfl | trivial), q⟩
set_option maxRecDepth 100000 in
theorem go_X9_again_25 {nc : Nat} {C : tf_C} {Q : tf_Q} {h : LH} (hn : 297 ≤ nc) {x1 : Int32} (q : C 113 [.ref (270), .int (x1 + 1), .int (0)] h (fun r g => lx_X9_again nc C Q 33 [.ref (270), .int (x1)] [] g)) : lx_X9_again nc C Q 25 [.ref (270), .int (x1)] [] h := by
  refine tf_LW_go ?_
  exact ⟨Nat.le_of_ble_eq_true rfl, Nat.le_of_ble_eq_true rfl, q⟩
set_option maxRecDepth 100000 in
theorem go_X9_again_33 {nc : Nat} {C : tf_C} {Q : tf_Q} {h : LH} (hn : 297 ≤ nc) {x1 : Int32} (q : Q (.int (1)) (tf_up h.1 270 5 0, h.2)) : lx_X9_again nc C Q 33 [.ref (270), .int (x1)] [] h := by
  refine tf_LW_go ?_
  exact ⟨⟨(by first | rfl | trivial), (show 270 < nc by omega), (by first | rfl | trivial)⟩, ⟨(by first | rfl | trivial), q⟩⟩
