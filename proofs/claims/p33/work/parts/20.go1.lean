/-! ===== the methods, block by block: what must hold so that the light machine goes on (printed by program) ===== -/
def tn_ck0 (b : Nat) : Bool := tf_K b != 0 || (decide (b + 15 ≤ 240) && decide (tf_K (b + 1) = 8) && decide (tf_K (b + 2) = 8) && decide (tf_K (b + 3) = 8) && decide (tf_K (b + 4) = 8) && decide (tf_K (b + 5) = 8) && decide (tf_K (b + 6) = 8) && decide (tf_K (b + 7) = 8) && decide (tf_K (b + 8) = 8) && decide (tf_K (b + 9) = 8) && decide (tf_K (b + 10) = 8) && decide (tf_K (b + 11) = 4) && decide (tf_K (b + 12) = 8) && decide (tf_K (b + 13) = 8) && decide (tf_K (b + 14) = 8) && decide (tf_N (b + 1) = 7) && decide (tf_N (b + 2) = 21) && decide (tf_N (b + 3) = 21) && decide (tf_N (b + 4) = 21) && decide (tf_N (b + 5) = 21) && decide (tf_N (b + 6) = 21) && decide (tf_N (b + 7) = 21) && decide (tf_N (b + 8) = 7) && decide (tf_N (b + 9) = 7) && decide (tf_N (b + 10) = 8) && decide (tf_N (b + 12) = 12) && decide (tf_N (b + 13) = 12) && decide (tf_N (b + 14) = 12))
theorem tn_ck0_all : (List.range 298).all tn_ck0 = true := by decide +kernel
theorem tn_big {b : Nat} (h : tf_K b < 99) : b < 298 := by
  rcases Nat.lt_or_ge b 298 with q | q
  · exact q
  · exfalso
    have : tf_K b = 99 := by
      unfold tf_K
      rw [List.getD_eq_getElem?_getD, List.getElem?_eq_none (by exact Nat.le_trans (by decide +kernel) q)]
      rfl
    omega
theorem tn_net {b : Nat} (k : tf_K b = 0) : b + 15 ≤ 240 ∧ (tf_K (b + 1) = 8 ∧ tf_K (b + 2) = 8 ∧ tf_K (b + 3) = 8 ∧ tf_K (b + 4) = 8 ∧ tf_K (b + 5) = 8 ∧ tf_K (b + 6) = 8 ∧ tf_K (b + 7) = 8 ∧ tf_K (b + 8) = 8 ∧ tf_K (b + 9) = 8 ∧ tf_K (b + 10) = 8 ∧ tf_K (b + 11) = 4 ∧ tf_K (b + 12) = 8 ∧ tf_K (b + 13) = 8 ∧ tf_K (b + 14) = 8) ∧ (tf_N (b + 1) = 7 ∧ tf_N (b + 2) = 21 ∧ tf_N (b + 3) = 21 ∧ tf_N (b + 4) = 21 ∧ tf_N (b + 5) = 21 ∧ tf_N (b + 6) = 21 ∧ tf_N (b + 7) = 21 ∧ tf_N (b + 8) = 7 ∧ tf_N (b + 9) = 7 ∧ tf_N (b + 10) = 8 ∧ tf_N (b + 12) = 12 ∧ tf_N (b + 13) = 12 ∧ tf_N (b + 14) = 12) := by
  have h := tf_rng tn_ck0_all (tn_big (b := b) (by omega))
  simp only [tn_ck0, k, Bool.or_eq_true, Bool.and_eq_true, decide_eq_true_eq, bne_self_eq_false, Bool.false_eq_true, false_or] at h
  obtain ⟨⟨⟨⟨⟨⟨⟨⟨⟨⟨⟨⟨⟨⟨⟨⟨⟨⟨⟨⟨⟨⟨⟨⟨⟨⟨⟨h0, h1⟩, h2⟩, h3⟩, h4⟩, h5⟩, h6⟩, h7⟩, h8⟩, h9⟩, h10⟩, h11⟩, h12⟩, h13⟩, h14⟩, n1⟩, n2⟩, n3⟩, n4⟩, n5⟩, n6⟩, n7⟩, n8⟩, n9⟩, n10⟩, n12⟩, n13⟩, n14⟩ := h
  exact ⟨h0, ⟨h1, h2, h3, h4, h5, h6, h7, h8, h9, h10, h11, h12, h13, h14⟩, n1, n2, n3, n4, n5, n6, n7, n8, n9, n10, n12, n13, n14⟩
def tn_ck4 (b : Nat) : Bool := tf_K b != 4 || (decide (b + 4 ≤ 240) && decide (tf_K (b + 1) = 8) && decide (tf_K (b + 2) = 8) && decide (tf_K (b + 3) = 8) && decide (tf_N (b + 1) = 12) && decide (tf_N (b + 2) = 12) && decide (tf_N (b + 3) = 12))
theorem tn_ck4_all : (List.range 298).all tn_ck4 = true := by decide +kernel
theorem tn_tally {b : Nat} (k : tf_K b = 4) : b + 4 ≤ 240 ∧ (tf_K (b + 1) = 8 ∧ tf_K (b + 2) = 8 ∧ tf_K (b + 3) = 8) ∧ (tf_N (b + 1) = 12 ∧ tf_N (b + 2) = 12 ∧ tf_N (b + 3) = 12) := by
  have h := tf_rng tn_ck4_all (tn_big (b := b) (by omega))
  simp only [tn_ck4, k, Bool.or_eq_true, Bool.and_eq_true, decide_eq_true_eq, bne_self_eq_false, Bool.false_eq_true, false_or] at h
  obtain ⟨⟨⟨⟨⟨⟨h0, h1⟩, h2⟩, h3⟩, n1⟩, n2⟩, n3⟩ := h
  exact ⟨h0, ⟨h1, h2, h3⟩, n1, n2, n3⟩
def tn_ck1 (b : Nat) : Bool := tf_K b != 1 || (decide (b + 2 ≤ 259) && decide (tf_K (b + 1) = 9) && decide (tf_N (b + 1) = 400))
theorem tn_ck1_all : (List.range 298).all tn_ck1 = true := by decide +kernel
theorem tn_page {b : Nat} (k : tf_K b = 1) : b + 2 ≤ 259 ∧ tf_K (b + 1) = 9 ∧ tf_N (b + 1) = 400 := by
  have h := tf_rng tn_ck1_all (tn_big (b := b) (by omega))
  simp only [tn_ck1, k, Bool.or_eq_true, Bool.and_eq_true, decide_eq_true_eq, bne_self_eq_false, Bool.false_eq_true, false_or] at h
  exact ⟨h.1.1, h.1.2, h.2⟩
theorem tn_R0 {b : Nat} (k : tf_K b = 0) (q : Nat) : tf_R b q = b + q - 2 := by simp [tf_R, k]
theorem tn_R4 {b : Nat} (k : tf_K b = 4) (q : Nat) : tf_R b q = b + q - 3 := by simp [tf_R, k]
theorem tn_R1 {b : Nat} (k : tf_K b = 1) (q : Nat) : tf_R b q = b + 1 := by simp [tf_R, k]

abbrev lx_X1_copyFrom (nc : Nat) (C : tf_C) (Q : tf_Q) : tf_X := tf_LW nc C (tf_F 0) (tf_M 0) (tf_I 0) (tf_Eh 116) 0 tb_X1_copyFrom Q
set_option maxRecDepth 100000 in
theorem go_X1_copyFrom_0 {nc : Nat} {C : tf_C} {Q : tf_Q} {h : LH} (hn : 270 ≤ nc) {x0 : Nat} {x1 : Nat} (Kx0_0 : tf_K x0 = 0) (Kx1_0 : tf_K x1 = 0) (q : C 1003 [.ref (x1 + 1), .int (0), .ref (x0 + 1), .int (0), .int (7)] (tf_up (tf_up (tf_up h.1 x0 0 (h.1 x1 0)) x0 1 ((tf_up h.1 x0 0 (h.1 x1 0)) x1 1)) x0 2 ((tf_up (tf_up h.1 x0 0 (h.1 x1 0)) x0 1 ((tf_up h.1 x0 0 (h.1 x1 0)) x1 1)) x1 2), h.2) (fun r g => lx_X1_copyFrom nc C Q 39 [.ref (x0), .ref (x1)] [] g)) : lx_X1_copyFrom nc C Q 0 [.ref (x0), .ref (x1)] [] h := by
  obtain ⟨Bx0, ⟨Kx0_1, Kx0_2, Kx0_3, Kx0_4, Kx0_5, Kx0_6, Kx0_7, Kx0_8, Kx0_9, Kx0_10, Kx0_11, Kx0_12, Kx0_13, Kx0_14⟩, ⟨Nx0_1, Nx0_2, Nx0_3, Nx0_4, Nx0_5, Nx0_6, Nx0_7, Nx0_8, Nx0_9, Nx0_10, Nx0_12, Nx0_13, Nx0_14⟩⟩ := tn_net Kx0_0
  obtain ⟨Bx1, ⟨Kx1_1, Kx1_2, Kx1_3, Kx1_4, Kx1_5, Kx1_6, Kx1_7, Kx1_8, Kx1_9, Kx1_10, Kx1_11, Kx1_12, Kx1_13, Kx1_14⟩, ⟨Nx1_1, Nx1_2, Nx1_3, Nx1_4, Nx1_5, Nx1_6, Nx1_7, Nx1_8, Nx1_9, Nx1_10, Nx1_12, Nx1_13, Nx1_14⟩⟩ := tn_net Kx1_0
  refine tf_LW_go ?_
  show (tf_K x1 = 0 ∧ x1 < nc) ∧ (tf_K x0 = 0 ∧ x0 < nc ∧ tf_S 0 0 = 0) ∧ (tf_K x1 = 0 ∧ x1 < nc) ∧ (tf_K x0 = 0 ∧ x0 < nc ∧ tf_S 0 1 = 0) ∧ (tf_K x1 = 0 ∧ x1 < nc) ∧ (tf_K x0 = 0 ∧ x0 < nc ∧ tf_S 0 2 = 0) ∧ (tf_K x1 = 0 ∧ x1 < nc) ∧ (tf_K x0 = 0 ∧ x0 < nc) ∧ 5 ≤ 5 ∧ 0 ≤ 8 ∧ C 1003 [.ref (tf_R x1 3), .int (0), .ref (tf_R x0 3), .int (0), .int (7)] (tf_up (tf_up (tf_up h.1 x0 0 (h.1 x1 0)) x0 1 ((tf_up h.1 x0 0 (h.1 x1 0)) x1 1)) x0 2 ((tf_up (tf_up h.1 x0 0 (h.1 x1 0)) x0 1 ((tf_up h.1 x0 0 (h.1 x1 0)) x1 1)) x1 2), h.2) (fun r g => lx_X1_copyFrom nc C Q 39 [.ref (x0), .ref (x1)] [] g)
  try simp only [(show tf_R x0 3 = x0 + 1 by rw [tn_R0 Kx0_0]; try omega), (show tf_R x1 3 = x1 + 1 by rw [tn_R0 Kx1_0]; try omega), Nx0_1, Nx1_1]
  exact ⟨⟨Kx1_0, (show x1 < nc by omega)⟩, ⟨⟨Kx0_0, (show x0 < nc by omega), (by first | rfl | trivial)⟩, ⟨⟨Kx1_0, (show x1 < nc by omega)⟩, ⟨⟨Kx0_0, (show x0 < nc by omega), (by first | rfl | trivial)⟩, ⟨⟨Kx1_0, (show x1 < nc by omega)⟩, ⟨⟨Kx0_0, (show x0 < nc by omega), (by first | rfl | trivial)⟩, ⟨⟨Kx1_0, (show x1 < nc by omega)⟩, ⟨⟨Kx0_0, (show x0 < nc by omega)⟩, ⟨Nat.le_of_ble_eq_true rfl, Nat.le_of_ble_eq_true rfl, q⟩⟩⟩⟩⟩⟩⟩⟩⟩
theorem en_X1_copyFrom {nc d : Nat} {Q : tf_Q} {h : LH} (hn : 270 ≤ nc) {x0 : Nat} {x1 : Nat} (Kx0_0 : tf_K x0 = 0) (Kx1_0 : tf_K x1 = 0) (q : lx_X1_copyFrom nc (tf_Cd nc d) Q 0 [.ref (x0), .ref (x1)] [] h) : tf_Cd nc (d + 1) 116 [.ref (x0), .ref (x1)] h Q := by
  obtain ⟨Bx0, ⟨Kx0_1, Kx0_2, Kx0_3, Kx0_4, Kx0_5, Kx0_6, Kx0_7, Kx0_8, Kx0_9, Kx0_10, Kx0_11, Kx0_12, Kx0_13, Kx0_14⟩, ⟨Nx0_1, Nx0_2, Nx0_3, Nx0_4, Nx0_5, Nx0_6, Nx0_7, Nx0_8, Nx0_9, Nx0_10, Nx0_12, Nx0_13, Nx0_14⟩⟩ := tn_net Kx0_0
  obtain ⟨Bx1, ⟨Kx1_1, Kx1_2, Kx1_3, Kx1_4, Kx1_5, Kx1_6, Kx1_7, Kx1_8, Kx1_9, Kx1_10, Kx1_11, Kx1_12, Kx1_13, Kx1_14⟩, ⟨Nx1_1, Nx1_2, Nx1_3, Nx1_4, Nx1_5, Nx1_6, Nx1_7, Nx1_8, Nx1_9, Nx1_10, Nx1_12, Nx1_13, Nx1_14⟩⟩ := tn_net Kx1_0
  exact ⟨⟨Nat.le_of_ble_eq_true rfl, Or.inr ⟨Kx0_0, (show x0 < nc by omega)⟩⟩, q⟩
set_option maxRecDepth 100000 in
theorem go_X1_copyFrom_39 {nc : Nat} {C : tf_C} {Q : tf_Q} {h : LH} (hn : 270 ≤ nc) {x0 : Nat} {x1 : Nat} (Kx0_0 : tf_K x0 = 0) (Kx1_0 : tf_K x1 = 0) (q : C 1003 [.ref (x1 + 2), .int (0), .ref (x0 + 2), .int (0), .int (21)] h (fun r g => lx_X1_copyFrom nc C Q 54 [.ref (x0), .ref (x1)] [] g)) : lx_X1_copyFrom nc C Q 39 [.ref (x0), .ref (x1)] [] h := by
  obtain ⟨Bx0, ⟨Kx0_1, Kx0_2, Kx0_3, Kx0_4, Kx0_5, Kx0_6, Kx0_7, Kx0_8, Kx0_9, Kx0_10, Kx0_11, Kx0_12, Kx0_13, Kx0_14⟩, ⟨Nx0_1, Nx0_2, Nx0_3, Nx0_4, Nx0_5, Nx0_6, Nx0_7, Nx0_8, Nx0_9, Nx0_10, Nx0_12, Nx0_13, Nx0_14⟩⟩ := tn_net Kx0_0
  obtain ⟨Bx1, ⟨Kx1_1, Kx1_2, Kx1_3, Kx1_4, Kx1_5, Kx1_6, Kx1_7, Kx1_8, Kx1_9, Kx1_10, Kx1_11, Kx1_12, Kx1_13, Kx1_14⟩, ⟨Nx1_1, Nx1_2, Nx1_3, Nx1_4, Nx1_5, Nx1_6, Nx1_7, Nx1_8, Nx1_9, Nx1_10, Nx1_12, Nx1_13, Nx1_14⟩⟩ := tn_net Kx1_0
  refine tf_LW_go ?_
  show (tf_K x1 = 0 ∧ x1 < nc) ∧ (tf_K x0 = 0 ∧ x0 < nc) ∧ 5 ≤ 5 ∧ 0 ≤ 8 ∧ C 1003 [.ref (tf_R x1 4), .int (0), .ref (tf_R x0 4), .int (0), .int (21)] h (fun r g => lx_X1_copyFrom nc C Q 54 [.ref (x0), .ref (x1)] [] g)
  try simp only [(show tf_R x0 4 = x0 + 2 by rw [tn_R0 Kx0_0]; try omega), (show tf_R x1 4 = x1 + 2 by rw [tn_R0 Kx1_0]; try omega), Nx0_2, Nx1_2]
  exact ⟨⟨Kx1_0, (show x1 < nc by omega)⟩, ⟨⟨Kx0_0, (show x0 < nc by omega)⟩, ⟨Nat.le_of_ble_eq_true rfl, Nat.le_of_ble_eq_true rfl, q⟩⟩⟩
set_option maxRecDepth 100000 in
theorem go_X1_copyFrom_54 {nc : Nat} {C : tf_C} {Q : tf_Q} {h : LH} (hn : 270 ≤ nc) {x0 : Nat} {x1 : Nat} (Kx0_0 : tf_K x0 = 0) (Kx1_0 : tf_K x1 = 0) (q : C 1003 [.ref (x1 + 3), .int (0), .ref (x0 + 3), .int (0), .int (21)] h (fun r g => lx_X1_copyFrom nc C Q 69 [.ref (x0), .ref (x1)] [] g)) : lx_X1_copyFrom nc C Q 54 [.ref (x0), .ref (x1)] [] h := by
  obtain ⟨Bx0, ⟨Kx0_1, Kx0_2, Kx0_3, Kx0_4, Kx0_5, Kx0_6, Kx0_7, Kx0_8, Kx0_9, Kx0_10, Kx0_11, Kx0_12, Kx0_13, Kx0_14⟩, ⟨Nx0_1, Nx0_2, Nx0_3, Nx0_4, Nx0_5, Nx0_6, Nx0_7, Nx0_8, Nx0_9, Nx0_10, Nx0_12, Nx0_13, Nx0_14⟩⟩ := tn_net Kx0_0
  obtain ⟨Bx1, ⟨Kx1_1, Kx1_2, Kx1_3, Kx1_4, Kx1_5, Kx1_6, Kx1_7, Kx1_8, Kx1_9, Kx1_10, Kx1_11, Kx1_12, Kx1_13, Kx1_14⟩, ⟨Nx1_1, Nx1_2, Nx1_3, Nx1_4, Nx1_5, Nx1_6, Nx1_7, Nx1_8, Nx1_9, Nx1_10, Nx1_12, Nx1_13, Nx1_14⟩⟩ := tn_net Kx1_0
  refine tf_LW_go ?_
  show (tf_K x1 = 0 ∧ x1 < nc) ∧ (tf_K x0 = 0 ∧ x0 < nc) ∧ 5 ≤ 5 ∧ 0 ≤ 8 ∧ C 1003 [.ref (tf_R x1 5), .int (0), .ref (tf_R x0 5), .int (0), .int (21)] h (fun r g => lx_X1_copyFrom nc C Q 69 [.ref (x0), .ref (x1)] [] g)
  try simp only [(show tf_R x0 5 = x0 + 3 by rw [tn_R0 Kx0_0]; try omega), (show tf_R x1 5 = x1 + 3 by rw [tn_R0 Kx1_0]; try omega), Nx0_3, Nx1_3]
  exact ⟨⟨Kx1_0, (show x1 < nc by omega)⟩, ⟨⟨Kx0_0, (show x0 < nc by omega)⟩, ⟨Nat.le_of_ble_eq_true rfl, Nat.le_of_ble_eq_true rfl, q⟩⟩⟩
set_option maxRecDepth 100000 in
theorem go_X1_copyFrom_69 {nc : Nat} {C : tf_C} {Q : tf_Q} {h : LH} (hn : 270 ≤ nc) {x0 : Nat} {x1 : Nat} (Kx0_0 : tf_K x0 = 0) (Kx1_0 : tf_K x1 = 0) (q : C 1003 [.ref (x1 + 4), .int (0), .ref (x0 + 4), .int (0), .int (21)] h (fun r g => lx_X1_copyFrom nc C Q 84 [.ref (x0), .ref (x1)] [] g)) : lx_X1_copyFrom nc C Q 69 [.ref (x0), .ref (x1)] [] h := by
  obtain ⟨Bx0, ⟨Kx0_1, Kx0_2, Kx0_3, Kx0_4, Kx0_5, Kx0_6, Kx0_7, Kx0_8, Kx0_9, Kx0_10, Kx0_11, Kx0_12, Kx0_13, Kx0_14⟩, ⟨Nx0_1, Nx0_2, Nx0_3, Nx0_4, Nx0_5, Nx0_6, Nx0_7, Nx0_8, Nx0_9, Nx0_10, Nx0_12, Nx0_13, Nx0_14⟩⟩ := tn_net Kx0_0
  obtain ⟨Bx1, ⟨Kx1_1, Kx1_2, Kx1_3, Kx1_4, Kx1_5, Kx1_6, Kx1_7, Kx1_8, Kx1_9, Kx1_10, Kx1_11, Kx1_12, Kx1_13, Kx1_14⟩, ⟨Nx1_1, Nx1_2, Nx1_3, Nx1_4, Nx1_5, Nx1_6, Nx1_7, Nx1_8, Nx1_9, Nx1_10, Nx1_12, Nx1_13, Nx1_14⟩⟩ := tn_net Kx1_0
  refine tf_LW_go ?_
  show (tf_K x1 = 0 ∧ x1 < nc) ∧ (tf_K x0 = 0 ∧ x0 < nc) ∧ 5 ≤ 5 ∧ 0 ≤ 8 ∧ C 1003 [.ref (tf_R x1 6), .int (0), .ref (tf_R x0 6), .int (0), .int (21)] h (fun r g => lx_X1_copyFrom nc C Q 84 [.ref (x0), .ref (x1)] [] g)
  try simp only [(show tf_R x0 6 = x0 + 4 by rw [tn_R0 Kx0_0]; try omega), (show tf_R x1 6 = x1 + 4 by rw [tn_R0 Kx1_0]; try omega), Nx0_4, Nx1_4]
  exact ⟨⟨Kx1_0, (show x1 < nc by omega)⟩, ⟨⟨Kx0_0, (show x0 < nc by omega)⟩, ⟨Nat.le_of_ble_eq_true rfl, Nat.le_of_ble_eq_true rfl, q⟩⟩⟩
set_option maxRecDepth 100000 in
theorem go_X1_copyFrom_84 {nc : Nat} {C : tf_C} {Q : tf_Q} {h : LH} (hn : 270 ≤ nc) {x0 : Nat} {x1 : Nat} (Kx0_0 : tf_K x0 = 0) (Kx1_0 : tf_K x1 = 0) (q : C 1003 [.ref (x1 + 5), .int (0), .ref (x0 + 5), .int (0), .int (21)] h (fun r g => lx_X1_copyFrom nc C Q 99 [.ref (x0), .ref (x1)] [] g)) : lx_X1_copyFrom nc C Q 84 [.ref (x0), .ref (x1)] [] h := by
  obtain ⟨Bx0, ⟨Kx0_1, Kx0_2, Kx0_3, Kx0_4, Kx0_5, Kx0_6, Kx0_7, Kx0_8, Kx0_9, Kx0_10, Kx0_11, Kx0_12, Kx0_13, Kx0_14⟩, ⟨Nx0_1, Nx0_2, Nx0_3, Nx0_4, Nx0_5, Nx0_6, Nx0_7, Nx0_8, Nx0_9, Nx0_10, Nx0_12, Nx0_13, Nx0_14⟩⟩ := tn_net Kx0_0
  obtain ⟨Bx1, ⟨Kx1_1, Kx1_2, Kx1_3, Kx1_4, Kx1_5, Kx1_6, Kx1_7, Kx1_8, Kx1_9, Kx1_10, Kx1_11, Kx1_12, Kx1_13, Kx1_14⟩, ⟨Nx1_1, Nx1_2, Nx1_3, Nx1_4, Nx1_5, Nx1_6, Nx1_7, Nx1_8, Nx1_9, Nx1_10, Nx1_12, Nx1_13, Nx1_14⟩⟩ := tn_net Kx1_0
  refine tf_LW_go ?_
  show (tf_K x1 = 0 ∧ x1 < nc) ∧ (tf_K x0 = 0 ∧ x0 < nc) ∧ 5 ≤ 5 ∧ 0 ≤ 8 ∧ C 1003 [.ref (tf_R x1 7), .int (0), .ref (tf_R x0 7), .int (0), .int (21)] h (fun r g => lx_X1_copyFrom nc C Q 99 [.ref (x0), .ref (x1)] [] g)
  try simp only [(show tf_R x0 7 = x0 + 5 by rw [tn_R0 Kx0_0]; try omega), (show tf_R x1 7 = x1 + 5 by rw [tn_R0 Kx1_0]; try omega), Nx0_5, Nx1_5]
  exact ⟨⟨Kx1_0, (show x1 < nc by omega)⟩, ⟨⟨Kx0_0, (show x0 < nc by omega)⟩, ⟨Nat.le_of_ble_eq_true rfl, Nat.le_of_ble_eq_true rfl, q⟩⟩⟩
set_option maxRecDepth 100000 in
theorem go_X1_copyFrom_99 {nc : Nat} {C : tf_C} {Q : tf_Q} {h : LH} (hn : 270 ≤ nc) {x0 : Nat} {x1 : Nat} (Kx0_0 : tf_K x0 = 0) (Kx1_0 : tf_K x1 = 0) (q : C 1003 [.ref (x1 + 6), .int (0), .ref (x0 + 6), .int (0), .int (21)] h (fun r g => lx_X1_copyFrom nc C Q 114 [.ref (x0), .ref (x1)] [] g)) : lx_X1_copyFrom nc C Q 99 [.ref (x0), .ref (x1)] [] h := by
  obtain ⟨Bx0, ⟨Kx0_1, Kx0_2, Kx0_3, Kx0_4, Kx0_5, Kx0_6, Kx0_7, Kx0_8, Kx0_9, Kx0_10, Kx0_11, Kx0_12, Kx0_13, Kx0_14⟩, ⟨Nx0_1, Nx0_2, Nx0_3, Nx0_4, Nx0_5, Nx0_6, Nx0_7, Nx0_8, Nx0_9, Nx0_10, Nx0_12, Nx0_13, Nx0_14⟩⟩ := tn_net Kx0_0
  obtain ⟨Bx1, ⟨Kx1_1, Kx1_2, Kx1_3, Kx1_4, Kx1_5, Kx1_6, Kx1_7, Kx1_8, Kx1_9, Kx1_10, Kx1_11, Kx1_12, Kx1_13, Kx1_14⟩, ⟨Nx1_1, Nx1_2, Nx1_3, Nx1_4, Nx1_5, Nx1_6, Nx1_7, Nx1_8, Nx1_9, Nx1_10, Nx1_12, Nx1_13, Nx1_14⟩⟩ := tn_net Kx1_0
  refine tf_LW_go ?_
  show (tf_K x1 = 0 ∧ x1 < nc) ∧ (tf_K x0 = 0 ∧ x0 < nc) ∧ 5 ≤ 5 ∧ 0 ≤ 8 ∧ C 1003 [.ref (tf_R x1 8), .int (0), .ref (tf_R x0 8), .int (0), .int (21)] h (fun r g => lx_X1_copyFrom nc C Q 114 [.ref (x0), .ref (x1)] [] g)
  try simp only [(show tf_R x0 8 = x0 + 6 by rw [tn_R0 Kx0_0]; try omega), (show tf_R x1 8 = x1 + 6 by rw [tn_R0 Kx1_0]; try omega), Nx0_6, Nx1_6]
  exact ⟨⟨Kx1_0, (show x1 < nc by omega)⟩, ⟨⟨Kx0_0, (show x0 < nc by omega)⟩, ⟨Nat.le_of_ble_eq_true rfl, Nat.le_of_ble_eq_true rfl, q⟩⟩⟩
set_option maxRecDepth 100000 in
theorem go_X1_copyFrom_114 {nc : Nat} {C : tf_C} {Q : tf_Q} {h : LH} (hn : 270 ≤ nc) {x0 : Nat} {x1 : Nat} (Kx0_0 : tf_K x0 = 0) (Kx1_0 : tf_K x1 = 0) (q : C 1003 [.ref (x1 + 7), .int (0), .ref (x0 + 7), .int (0), .int (21)] h (fun r g => lx_X1_copyFrom nc C Q 129 [.ref (x0), .ref (x1)] [] g)) : lx_X1_copyFrom nc C Q 114 [.ref (x0), .ref (x1)] [] h := by
  obtain ⟨Bx0, ⟨Kx0_1, Kx0_2, Kx0_3, Kx0_4, Kx0_5, Kx0_6, Kx0_7, Kx0_8, Kx0_9, Kx0_10, Kx0_11, Kx0_12, Kx0_13, Kx0_14⟩, ⟨Nx0_1, Nx0_2, Nx0_3, Nx0_4, Nx0_5, Nx0_6, Nx0_7, Nx0_8, Nx0_9, Nx0_10, Nx0_12, Nx0_13, Nx0_14⟩⟩ := tn_net Kx0_0
  obtain ⟨Bx1, ⟨Kx1_1, Kx1_2, Kx1_3, Kx1_4, Kx1_5, Kx1_6, Kx1_7, Kx1_8, Kx1_9, Kx1_10, Kx1_11, Kx1_12, Kx1_13, Kx1_14⟩, ⟨Nx1_1, Nx1_2, Nx1_3, Nx1_4, Nx1_5, Nx1_6, Nx1_7, Nx1_8, Nx1_9, Nx1_10, Nx1_12, Nx1_13, Nx1_14⟩⟩ := tn_net Kx1_0
  refine tf_LW_go ?_
  show (tf_K x1 = 0 ∧ x1 < nc) ∧ (tf_K x0 = 0 ∧ x0 < nc) ∧ 5 ≤ 5 ∧ 0 ≤ 8 ∧ C 1003 [.ref (tf_R x1 9), .int (0), .ref (tf_R x0 9), .int (0), .int (21)] h (fun r g => lx_X1_copyFrom nc C Q 129 [.ref (x0), .ref (x1)] [] g)
  try simp only [(show tf_R x0 9 = x0 + 7 by rw [tn_R0 Kx0_0]; try omega), (show tf_R x1 9 = x1 + 7 by rw [tn_R0 Kx1_0]; try omega), Nx0_7, Nx1_7]
  exact ⟨⟨Kx1_0, (show x1 < nc by omega)⟩, ⟨⟨Kx0_0, (show x0 < nc by omega)⟩, ⟨Nat.le_of_ble_eq_true rfl, Nat.le_of_ble_eq_true rfl, q⟩⟩⟩
set_option maxRecDepth 100000 in
theorem go_X1_copyFrom_129 {nc : Nat} {C : tf_C} {Q : tf_Q} {h : LH} (hn : 270 ≤ nc) {x0 : Nat} {x1 : Nat} (Kx0_0 : tf_K x0 = 0) (Kx1_0 : tf_K x1 = 0) (q : C 1003 [.ref (x1 + 8), .int (0), .ref (x0 + 8), .int (0), .int (7)] h (fun r g => lx_X1_copyFrom nc C Q 144 [.ref (x0), .ref (x1)] [] g)) : lx_X1_copyFrom nc C Q 129 [.ref (x0), .ref (x1)] [] h := by
  obtain ⟨Bx0, ⟨Kx0_1, Kx0_2, Kx0_3, Kx0_4, Kx0_5, Kx0_6, Kx0_7, Kx0_8, Kx0_9, Kx0_10, Kx0_11, Kx0_12, Kx0_13, Kx0_14⟩, ⟨Nx0_1, Nx0_2, Nx0_3, Nx0_4, Nx0_5, Nx0_6, Nx0_7, Nx0_8, Nx0_9, Nx0_10, Nx0_12, Nx0_13, Nx0_14⟩⟩ := tn_net Kx0_0
  obtain ⟨Bx1, ⟨Kx1_1, Kx1_2, Kx1_3, Kx1_4, Kx1_5, Kx1_6, Kx1_7, Kx1_8, Kx1_9, Kx1_10, Kx1_11, Kx1_12, Kx1_13, Kx1_14⟩, ⟨Nx1_1, Nx1_2, Nx1_3, Nx1_4, Nx1_5, Nx1_6, Nx1_7, Nx1_8, Nx1_9, Nx1_10, Nx1_12, Nx1_13, Nx1_14⟩⟩ := tn_net Kx1_0
  refine tf_LW_go ?_
  show (tf_K x1 = 0 ∧ x1 < nc) ∧ (tf_K x0 = 0 ∧ x0 < nc) ∧ 5 ≤ 5 ∧ 0 ≤ 8 ∧ C 1003 [.ref (tf_R x1 10), .int (0), .ref (tf_R x0 10), .int (0), .int (7)] h (fun r g => lx_X1_copyFrom nc C Q 144 [.ref (x0), .ref (x1)] [] g)
  try simp only [(show tf_R x0 10 = x0 + 8 by rw [tn_R0 Kx0_0]; try omega), (show tf_R x1 10 = x1 + 8 by rw [tn_R0 Kx1_0]; try omega), Nx0_8, Nx1_8]
  exact ⟨⟨Kx1_0, (show x1 < nc by omega)⟩, ⟨⟨Kx0_0, (show x0 < nc by omega)⟩, ⟨Nat.le_of_ble_eq_true rfl, Nat.le_of_ble_eq_true rfl, q⟩⟩⟩
set_option maxRecDepth 100000 in
theorem go_X1_copyFrom_144 {nc : Nat} {C : tf_C} {Q : tf_Q} {h : LH} (hn : 270 ≤ nc) {x0 : Nat} {x1 : Nat} (Kx0_0 : tf_K x0 = 0) (Kx1_0 : tf_K x1 = 0) (q : C 1003 [.ref (x1 + 9), .int (0), .ref (x0 + 9), .int (0), .int (7)] h (fun r g => lx_X1_copyFrom nc C Q 159 [.ref (x0), .ref (x1)] [] g)) : lx_X1_copyFrom nc C Q 144 [.ref (x0), .ref (x1)] [] h := by
  obtain ⟨Bx0, ⟨Kx0_1, Kx0_2, Kx0_3, Kx0_4, Kx0_5, Kx0_6, Kx0_7, Kx0_8, Kx0_9, Kx0_10, Kx0_11, Kx0_12, Kx0_13, Kx0_14⟩, ⟨Nx0_1, Nx0_2, Nx0_3, Nx0_4, Nx0_5, Nx0_6, Nx0_7, Nx0_8, Nx0_9, Nx0_10, Nx0_12, Nx0_13, Nx0_14⟩⟩ := tn_net Kx0_0
  obtain ⟨Bx1, ⟨Kx1_1, Kx1_2, Kx1_3, Kx1_4, Kx1_5, Kx1_6, Kx1_7, Kx1_8, Kx1_9, Kx1_10, Kx1_11, Kx1_12, Kx1_13, Kx1_14⟩, ⟨Nx1_1, Nx1_2, Nx1_3, Nx1_4, Nx1_5, Nx1_6, Nx1_7, Nx1_8, Nx1_9, Nx1_10, Nx1_12, Nx1_13, Nx1_14⟩⟩ := tn_net Kx1_0
  refine tf_LW_go ?_
  show (tf_K x1 = 0 ∧ x1 < nc) ∧ (tf_K x0 = 0 ∧ x0 < nc) ∧ 5 ≤ 5 ∧ 0 ≤ 8 ∧ C 1003 [.ref (tf_R x1 11), .int (0), .ref (tf_R x0 11), .int (0), .int (7)] h (fun r g => lx_X1_copyFrom nc C Q 159 [.ref (x0), .ref (x1)] [] g)
  try simp only [(show tf_R x0 11 = x0 + 9 by rw [tn_R0 Kx0_0]; try omega), (show tf_R x1 11 = x1 + 9 by rw [tn_R0 Kx1_0]; try omega), Nx0_9, Nx1_9]
  exact ⟨⟨Kx1_0, (show x1 < nc by omega)⟩, ⟨⟨Kx0_0, (show x0 < nc by omega)⟩, ⟨Nat.le_of_ble_eq_true rfl, Nat.le_of_ble_eq_true rfl, q⟩⟩⟩
set_option maxRecDepth 100000 in
theorem go_X1_copyFrom_159 {nc : Nat} {C : tf_C} {Q : tf_Q} {h : LH} (hn : 270 ≤ nc) {x0 : Nat} {x1 : Nat} (Kx0_0 : tf_K x0 = 0) (Kx1_0 : tf_K x1 = 0) (q : C 1003 [.ref (x1 + 10), .int (0), .ref (x0 + 10), .int (0), .int (8)] h (fun r g => lx_X1_copyFrom nc C Q 174 [.ref (x0), .ref (x1)] [] g)) : lx_X1_copyFrom nc C Q 159 [.ref (x0), .ref (x1)] [] h := by
  obtain ⟨Bx0, ⟨Kx0_1, Kx0_2, Kx0_3, Kx0_4, Kx0_5, Kx0_6, Kx0_7, Kx0_8, Kx0_9, Kx0_10, Kx0_11, Kx0_12, Kx0_13, Kx0_14⟩, ⟨Nx0_1, Nx0_2, Nx0_3, Nx0_4, Nx0_5, Nx0_6, Nx0_7, Nx0_8, Nx0_9, Nx0_10, Nx0_12, Nx0_13, Nx0_14⟩⟩ := tn_net Kx0_0
  obtain ⟨Bx1, ⟨Kx1_1, Kx1_2, Kx1_3, Kx1_4, Kx1_5, Kx1_6, Kx1_7, Kx1_8, Kx1_9, Kx1_10, Kx1_11, Kx1_12, Kx1_13, Kx1_14⟩, ⟨Nx1_1, Nx1_2, Nx1_3, Nx1_4, Nx1_5, Nx1_6, Nx1_7, Nx1_8, Nx1_9, Nx1_10, Nx1_12, Nx1_13, Nx1_14⟩⟩ := tn_net Kx1_0
  refine tf_LW_go ?_
  show (tf_K x1 = 0 ∧ x1 < nc) ∧ (tf_K x0 = 0 ∧ x0 < nc) ∧ 5 ≤ 5 ∧ 0 ≤ 8 ∧ C 1003 [.ref (tf_R x1 12), .int (0), .ref (tf_R x0 12), .int (0), .int (8)] h (fun r g => lx_X1_copyFrom nc C Q 174 [.ref (x0), .ref (x1)] [] g)
  try simp only [(show tf_R x0 12 = x0 + 10 by rw [tn_R0 Kx0_0]; try omega), (show tf_R x1 12 = x1 + 10 by rw [tn_R0 Kx1_0]; try omega), Nx0_10, Nx1_10]
  exact ⟨⟨Kx1_0, (show x1 < nc by omega)⟩, ⟨⟨Kx0_0, (show x0 < nc by omega)⟩, ⟨Nat.le_of_ble_eq_true rfl, Nat.le_of_ble_eq_true rfl, q⟩⟩⟩
set_option maxRecDepth 100000 in
theorem go_X1_copyFrom_174 {nc : Nat} {C : tf_C} {Q : tf_Q} {h : LH} (hn : 270 ≤ nc) {x0 : Nat} {x1 : Nat} (Kx0_0 : tf_K x0 = 0) (Kx1_0 : tf_K x1 = 0) (q : C 171 [.ref (x0 + 11), .ref (x1 + 11)] h (fun r g => lx_X1_copyFrom nc C Q 185 [.ref (x0), .ref (x1)] [] g)) : lx_X1_copyFrom nc C Q 174 [.ref (x0), .ref (x1)] [] h := by
  obtain ⟨Bx0, ⟨Kx0_1, Kx0_2, Kx0_3, Kx0_4, Kx0_5, Kx0_6, Kx0_7, Kx0_8, Kx0_9, Kx0_10, Kx0_11, Kx0_12, Kx0_13, Kx0_14⟩, ⟨Nx0_1, Nx0_2, Nx0_3, Nx0_4, Nx0_5, Nx0_6, Nx0_7, Nx0_8, Nx0_9, Nx0_10, Nx0_12, Nx0_13, Nx0_14⟩⟩ := tn_net Kx0_0
  obtain ⟨Bx1, ⟨Kx1_1, Kx1_2, Kx1_3, Kx1_4, Kx1_5, Kx1_6, Kx1_7, Kx1_8, Kx1_9, Kx1_10, Kx1_11, Kx1_12, Kx1_13, Kx1_14⟩, ⟨Nx1_1, Nx1_2, Nx1_3, Nx1_4, Nx1_5, Nx1_6, Nx1_7, Nx1_8, Nx1_9, Nx1_10, Nx1_12, Nx1_13, Nx1_14⟩⟩ := tn_net Kx1_0
  refine tf_LW_go ?_
  show (tf_K x0 = 0 ∧ x0 < nc) ∧ (tf_K x1 = 0 ∧ x1 < nc) ∧ 2 ≤ 2 ∧ 0 ≤ 8 ∧ C 171 [.ref (tf_R x0 13), .ref (tf_R x1 13)] h (fun r g => lx_X1_copyFrom nc C Q 185 [.ref (x0), .ref (x1)] [] g)
  try simp only [(show tf_R x0 13 = x0 + 11 by rw [tn_R0 Kx0_0]; try omega), (show tf_R x1 13 = x1 + 11 by rw [tn_R0 Kx1_0]; try omega)]
  exact ⟨⟨Kx0_0, (show x0 < nc by omega)⟩, ⟨⟨Kx1_0, (show x1 < nc by omega)⟩, ⟨Nat.le_of_ble_eq_true rfl, Nat.le_of_ble_eq_true rfl, q⟩⟩⟩
set_option maxRecDepth 100000 in
theorem go_X1_copyFrom_185 {nc : Nat} {C : tf_C} {Q : tf_Q} {h : LH} (hn : 270 ≤ nc) {x0 : Nat} {x1 : Nat} (Kx0_0 : tf_K x0 = 0) (Kx1_0 : tf_K x1 = 0) (q : Q tf_z h) : lx_X1_copyFrom nc C Q 185 [.ref (x0), .ref (x1)] [] h := by
  obtain ⟨Bx0, ⟨Kx0_1, Kx0_2, Kx0_3, Kx0_4, Kx0_5, Kx0_6, Kx0_7, Kx0_8, Kx0_9, Kx0_10, Kx0_11, Kx0_12, Kx0_13, Kx0_14⟩, ⟨Nx0_1, Nx0_2, Nx0_3, Nx0_4, Nx0_5, Nx0_6, Nx0_7, Nx0_8, Nx0_9, Nx0_10, Nx0_12, Nx0_13, Nx0_14⟩⟩ := tn_net Kx0_0
  obtain ⟨Bx1, ⟨Kx1_1, Kx1_2, Kx1_3, Kx1_4, Kx1_5, Kx1_6, Kx1_7, Kx1_8, Kx1_9, Kx1_10, Kx1_11, Kx1_12, Kx1_13, Kx1_14⟩, ⟨Nx1_1, Nx1_2, Nx1_3, Nx1_4, Nx1_5, Nx1_6, Nx1_7, Nx1_8, Nx1_9, Nx1_10, Nx1_12, Nx1_13, Nx1_14⟩⟩ := tn_net Kx1_0
  refine tf_LW_go ?_
  exact ⟨(by first | rfl | trivial), q⟩
abbrev lx_X1_clear (nc : Nat) (C : tf_C) (Q : tf_Q) : tf_X := tf_LW nc C (tf_F 0) (tf_M 0) (tf_I 0) (tf_Eh 117) 0 tb_X1_clear Q
set_option maxRecDepth 100000 in
theorem go_X1_clear_0 {nc : Nat} {C : tf_C} {Q : tf_Q} {h : LH} (hn : 270 ≤ nc) {x0 : Nat} {x1 : Int32} (Kx0_0 : tf_K x0 = 0) (q : lx_X1_clear nc C Q 17 [.ref (x0), .int (x1), .int (0)] [] (tf_up (tf_up (tf_up h.1 x0 0 x1) x0 1 0) x0 2 0, h.2)) : lx_X1_clear nc C Q 0 [.ref (x0), .int (x1), tf_z] [] h := by
  obtain ⟨Bx0, ⟨Kx0_1, Kx0_2, Kx0_3, Kx0_4, Kx0_5, Kx0_6, Kx0_7, Kx0_8, Kx0_9, Kx0_10, Kx0_11, Kx0_12, Kx0_13, Kx0_14⟩, ⟨Nx0_1, Nx0_2, Nx0_3, Nx0_4, Nx0_5, Nx0_6, Nx0_7, Nx0_8, Nx0_9, Nx0_10, Nx0_12, Nx0_13, Nx0_14⟩⟩ := tn_net Kx0_0
  refine tf_LW_go ?_
  exact ⟨⟨Kx0_0, (show x0 < nc by omega), (by first | rfl | trivial)⟩, ⟨⟨Kx0_0, (show x0 < nc by omega), (by first | rfl | trivial)⟩, ⟨⟨Kx0_0, (show x0 < nc by omega), (by first | rfl | trivial)⟩, q⟩⟩⟩
theorem en_X1_clear {nc d : Nat} {Q : tf_Q} {h : LH} (hn : 270 ≤ nc) {x0 : Nat} {x1 : Int32} (Kx0_0 : tf_K x0 = 0) (q : lx_X1_clear nc (tf_Cd nc d) Q 0 [.ref (x0), .int (x1), tf_z] [] h) : tf_Cd nc (d + 1) 117 [.ref (x0), .int (x1)] h Q := by
  obtain ⟨Bx0, ⟨Kx0_1, Kx0_2, Kx0_3, Kx0_4, Kx0_5, Kx0_6, Kx0_7, Kx0_8, Kx0_9, Kx0_10, Kx0_11, Kx0_12, Kx0_13, Kx0_14⟩, ⟨Nx0_1, Nx0_2, Nx0_3, Nx0_4, Nx0_5, Nx0_6, Nx0_7, Nx0_8, Nx0_9, Nx0_10, Nx0_12, Nx0_13, Nx0_14⟩⟩ := tn_net Kx0_0
  exact ⟨⟨Nat.le_of_ble_eq_true rfl, Or.inr ⟨Kx0_0, (show x0 < nc by omega)⟩⟩, q⟩
set_option maxRecDepth 100000 in
theorem go_X1_clear_17 {nc : Nat} {C : tf_C} {Q : tf_Q} {h : LH} (hn : 270 ≤ nc) {x0 : Nat} {x1 : Int32} {x2 : Int32} (Kx0_0 : tf_K x0 = 0) (q : ((7 : Int32) ≤ x2 → lx_X1_clear nc C Q 36 [.ref (x0), .int (x1), .int (x2)] [] h) ∧ (¬ (7 : Int32) ≤ x2 → (vp_in x2 7) ∧ lx_X1_clear nc C Q 17 [.ref (x0), .int (x1), .int (x2 + 1)] [] (tf_up h.1 (x0 + 1) (x2 : Int32).toNatClampNeg 0, h.2))) : lx_X1_clear nc C Q 17 [.ref (x0), .int (x1), .int (x2)] [] h := by
  obtain ⟨Bx0, ⟨Kx0_1, Kx0_2, Kx0_3, Kx0_4, Kx0_5, Kx0_6, Kx0_7, Kx0_8, Kx0_9, Kx0_10, Kx0_11, Kx0_12, Kx0_13, Kx0_14⟩, ⟨Nx0_1, Nx0_2, Nx0_3, Nx0_4, Nx0_5, Nx0_6, Nx0_7, Nx0_8, Nx0_9, Nx0_10, Nx0_12, Nx0_13, Nx0_14⟩⟩ := tn_net Kx0_0
  refine tf_LW_go ?_
  show ((7 : Int32) ≤ x2 → lx_X1_clear nc C Q 36 [.ref (x0), .int (x1), .int (x2)] [] h) ∧ (¬ (7 : Int32) ≤ x2 → (tf_K x0 = 0 ∧ x0 < nc) ∧ (tf_K (tf_R x0 3) = 8 ∧ (tf_R x0 3) < nc ∧ vp_in x2 (tf_N (tf_R x0 3))) ∧ lx_X1_clear nc C Q 17 [.ref (x0), .int (x1), .int (x2 + 1)] [] (tf_up h.1 (tf_R x0 3) (x2 : Int32).toNatClampNeg 0, h.2))
  try simp only [(show tf_R x0 3 = x0 + 1 by rw [tn_R0 Kx0_0]; try omega), Nx0_1]
  exact ⟨q.1, fun c1 => ⟨⟨Kx0_0, (show x0 < nc by omega)⟩, ⟨⟨Kx0_1, (show x0 + 1 < nc by omega), (q.2 c1).1⟩, (q.2 c1).2⟩⟩⟩
set_option maxRecDepth 100000 in
theorem go_X1_clear_36 {nc : Nat} {C : tf_C} {Q : tf_Q} {h : LH} (hn : 270 ≤ nc) {x0 : Nat} {x1 : Int32} {x2 : Int32} (Kx0_0 : tf_K x0 = 0) (q : Q tf_z h) : lx_X1_clear nc C Q 36 [.ref (x0), .int (x1), .int (x2)] [] h := by
  obtain ⟨Bx0, ⟨Kx0_1, Kx0_2, Kx0_3, Kx0_4, Kx0_5, Kx0_6, Kx0_7, Kx0_8, Kx0_9, Kx0_10, Kx0_11, Kx0_12, Kx0_13, Kx0_14⟩, ⟨Nx0_1, Nx0_2, Nx0_3, Nx0_4, Nx0_5, Nx0_6, Nx0_7, Nx0_8, Nx0_9, Nx0_10, Nx0_12, Nx0_13, Nx0_14⟩⟩ := tn_net Kx0_0
  refine tf_LW_go ?_
  exact ⟨(by first | rfl | trivial), q⟩
abbrev lx_X1_addArc (nc : Nat) (C : tf_C) (Q : tf_Q) : tf_X := tf_LW nc C (tf_F 0) (tf_M 0) (tf_I 0) (tf_Eh 118) 0 tb_X1_addArc Q
set_option maxRecDepth 100000 in
theorem go_X1_addArc_0 {nc : Nat} {C : tf_C} {Q : tf_Q} {h : LH} (hn : 270 ≤ nc) {x0 : Nat} {x1 : Int32} {x2 : Int32} {x3 : Int32} {x4 : Int32} (Kx0_0 : tf_K x0 = 0) (q : ((h.1 x0 1) < (14 : Int32) → lx_X1_addArc nc C Q 10 [.ref (x0), .int (x1), .int (x2), .int (x3), .int (x4)] [] h) ∧ (¬ (h.1 x0 1) < (14 : Int32) → Q tf_z h)) : lx_X1_addArc nc C Q 0 [.ref (x0), .int (x1), .int (x2), .int (x3), .int (x4)] [] h := by
  obtain ⟨Bx0, ⟨Kx0_1, Kx0_2, Kx0_3, Kx0_4, Kx0_5, Kx0_6, Kx0_7, Kx0_8, Kx0_9, Kx0_10, Kx0_11, Kx0_12, Kx0_13, Kx0_14⟩, ⟨Nx0_1, Nx0_2, Nx0_3, Nx0_4, Nx0_5, Nx0_6, Nx0_7, Nx0_8, Nx0_9, Nx0_10, Nx0_12, Nx0_13, Nx0_14⟩⟩ := tn_net Kx0_0
  refine tf_LW_go ?_
  exact ⟨⟨Kx0_0, (show x0 < nc by omega)⟩, ⟨q.1, fun c1 => ⟨(by first | rfl | trivial), (q.2 c1)⟩⟩⟩
theorem en_X1_addArc {nc d : Nat} {Q : tf_Q} {h : LH} (hn : 270 ≤ nc) {x0 : Nat} {x1 : Int32} {x2 : Int32} {x3 : Int32} {x4 : Int32} (Kx0_0 : tf_K x0 = 0) (q : lx_X1_addArc nc (tf_Cd nc d) Q 0 [.ref (x0), .int (x1), .int (x2), .int (x3), .int (x4)] [] h) : tf_Cd nc (d + 1) 118 [.ref (x0), .int (x1), .int (x2), .int (x3), .int (x4)] h Q := by
  obtain ⟨Bx0, ⟨Kx0_1, Kx0_2, Kx0_3, Kx0_4, Kx0_5, Kx0_6, Kx0_7, Kx0_8, Kx0_9, Kx0_10, Kx0_11, Kx0_12, Kx0_13, Kx0_14⟩, ⟨Nx0_1, Nx0_2, Nx0_3, Nx0_4, Nx0_5, Nx0_6, Nx0_7, Nx0_8, Nx0_9, Nx0_10, Nx0_12, Nx0_13, Nx0_14⟩⟩ := tn_net Kx0_0
  exact ⟨⟨Nat.le_of_ble_eq_true rfl, Or.inr ⟨Kx0_0, (show x0 < nc by omega)⟩⟩, q⟩
set_option maxRecDepth 100000 in
theorem go_X1_addArc_10 {nc : Nat} {C : tf_C} {Q : tf_Q} {h : LH} (hn : 270 ≤ nc) {x0 : Nat} {x1 : Int32} {x2 : Int32} {x3 : Int32} {x4 : Int32} (Kx0_0 : tf_K x0 = 0) (q : (vp_in (h.1 x0 1) 21) ∧ (vp_in ((tf_up h.1 (x0 + 2) (h.1 x0 1 : Int32).toNatClampNeg x1) x0 1) 21) ∧ (vp_in ((tf_up (tf_up h.1 (x0 + 2) (h.1 x0 1 : Int32).toNatClampNeg x1) (x0 + 3) ((tf_up h.1 (x0 + 2) (h.1 x0 1 : Int32).toNatClampNeg x1) x0 1 : Int32).toNatClampNeg x2) x0 1) 21) ∧ (vp_in ((tf_up (tf_up (tf_up h.1 (x0 + 2) (h.1 x0 1 : Int32).toNatClampNeg x1) (x0 + 3) ((tf_up h.1 (x0 + 2) (h.1 x0 1 : Int32).toNatClampNeg x1) x0 1 : Int32).toNatClampNeg x2) (x0 + 4) ((tf_up (tf_up h.1 (x0 + 2) (h.1 x0 1 : Int32).toNatClampNeg x1) (x0 + 3) ((tf_up h.1 (x0 + 2) (h.1 x0 1 : Int32).toNatClampNeg x1) x0 1 : Int32).toNatClampNeg x2) x0 1 : Int32).toNatClampNeg x3) x0 1) 21) ∧ (vp_in ((tf_up (tf_up (tf_up (tf_up h.1 (x0 + 2) (h.1 x0 1 : Int32).toNatClampNeg x1) (x0 + 3) ((tf_up h.1 (x0 + 2) (h.1 x0 1 : Int32).toNatClampNeg x1) x0 1 : Int32).toNatClampNeg x2) (x0 + 4) ((tf_up (tf_up h.1 (x0 + 2) (h.1 x0 1 : Int32).toNatClampNeg x1) (x0 + 3) ((tf_up h.1 (x0 + 2) (h.1 x0 1 : Int32).toNatClampNeg x1) x0 1 : Int32).toNatClampNeg x2) x0 1 : Int32).toNatClampNeg x3) (x0 + 5) ((tf_up (tf_up (tf_up h.1 (x0 + 2) (h.1 x0 1 : Int32).toNatClampNeg x1) (x0 + 3) ((tf_up h.1 (x0 + 2) (h.1 x0 1 : Int32).toNatClampNeg x1) x0 1 : Int32).toNatClampNeg x2) (x0 + 4) ((tf_up (tf_up h.1 (x0 + 2) (h.1 x0 1 : Int32).toNatClampNeg x1) (x0 + 3) ((tf_up h.1 (x0 + 2) (h.1 x0 1 : Int32).toNatClampNeg x1) x0 1 : Int32).toNatClampNeg x2) x0 1 : Int32).toNatClampNeg x3) x0 1 : Int32).toNatClampNeg x4) x0 1) 21) ∧ (vp_in ((tf_up (tf_up (tf_up (tf_up (tf_up h.1 (x0 + 2) (h.1 x0 1 : Int32).toNatClampNeg x1) (x0 + 3) ((tf_up h.1 (x0 + 2) (h.1 x0 1 : Int32).toNatClampNeg x1) x0 1 : Int32).toNatClampNeg x2) (x0 + 4) ((tf_up (tf_up h.1 (x0 + 2) (h.1 x0 1 : Int32).toNatClampNeg x1) (x0 + 3) ((tf_up h.1 (x0 + 2) (h.1 x0 1 : Int32).toNatClampNeg x1) x0 1 : Int32).toNatClampNeg x2) x0 1 : Int32).toNatClampNeg x3) (x0 + 5) ((tf_up (tf_up (tf_up h.1 (x0 + 2) (h.1 x0 1 : Int32).toNatClampNeg x1) (x0 + 3) ((tf_up h.1 (x0 + 2) (h.1 x0 1 : Int32).toNatClampNeg x1) x0 1 : Int32).toNatClampNeg x2) (x0 + 4) ((tf_up (tf_up h.1 (x0 + 2) (h.1 x0 1 : Int32).toNatClampNeg x1) (x0 + 3) ((tf_up h.1 (x0 + 2) (h.1 x0 1 : Int32).toNatClampNeg x1) x0 1 : Int32).toNatClampNeg x2) x0 1 : Int32).toNatClampNeg x3) x0 1 : Int32).toNatClampNeg x4) (x0 + 6) ((tf_up (tf_up (tf_up (tf_up h.1 (x0 + 2) (h.1 x0 1 : Int32).toNatClampNeg x1) (x0 + 3) ((tf_up h.1 (x0 + 2) (h.1 x0 1 : Int32).toNatClampNeg x1) x0 1 : Int32).toNatClampNeg x2) (x0 + 4) ((tf_up (tf_up h.1 (x0 + 2) (h.1 x0 1 : Int32).toNatClampNeg x1) (x0 + 3) ((tf_up h.1 (x0 + 2) (h.1 x0 1 : Int32).toNatClampNeg x1) x0 1 : Int32).toNatClampNeg x2) x0 1 : Int32).toNatClampNeg x3) (x0 + 5) ((tf_up (tf_up (tf_up h.1 (x0 + 2) (h.1 x0 1 : Int32).toNatClampNeg x1) (x0 + 3) ((tf_up h.1 (x0 + 2) (h.1 x0 1 : Int32).toNatClampNeg x1) x0 1 : Int32).toNatClampNeg x2) (x0 + 4) ((tf_up (tf_up h.1 (x0 + 2) (h.1 x0 1 : Int32).toNatClampNeg x1) (x0 + 3) ((tf_up h.1 (x0 + 2) (h.1 x0 1 : Int32).toNatClampNeg x1) x0 1 : Int32).toNatClampNeg x2) x0 1 : Int32).toNatClampNeg x3) x0 1 : Int32).toNatClampNeg x4) x0 1 : Int32).toNatClampNeg 0) x0 1) 21) ∧ Q tf_z (tf_up (tf_up (tf_up (tf_up (tf_up (tf_up (tf_up h.1 (x0 + 2) (h.1 x0 1 : Int32).toNatClampNeg x1) (x0 + 3) ((tf_up h.1 (x0 + 2) (h.1 x0 1 : Int32).toNatClampNeg x1) x0 1 : Int32).toNatClampNeg x2) (x0 + 4) ((tf_up (tf_up h.1 (x0 + 2) (h.1 x0 1 : Int32).toNatClampNeg x1) (x0 + 3) ((tf_up h.1 (x0 + 2) (h.1 x0 1 : Int32).toNatClampNeg x1) x0 1 : Int32).toNatClampNeg x2) x0 1 : Int32).toNatClampNeg x3) (x0 + 5) ((tf_up (tf_up (tf_up h.1 (x0 + 2) (h.1 x0 1 : Int32).toNatClampNeg x1) (x0 + 3) ((tf_up h.1 (x0 + 2) (h.1 x0 1 : Int32).toNatClampNeg x1) x0 1 : Int32).toNatClampNeg x2) (x0 + 4) ((tf_up (tf_up h.1 (x0 + 2) (h.1 x0 1 : Int32).toNatClampNeg x1) (x0 + 3) ((tf_up h.1 (x0 + 2) (h.1 x0 1 : Int32).toNatClampNeg x1) x0 1 : Int32).toNatClampNeg x2) x0 1 : Int32).toNatClampNeg x3) x0 1 : Int32).toNatClampNeg x4) (x0 + 6) ((tf_up (tf_up (tf_up (tf_up h.1 (x0 + 2) (h.1 x0 1 : Int32).toNatClampNeg x1) (x0 + 3) ((tf_up h.1 (x0 + 2) (h.1 x0 1 : Int32).toNatClampNeg x1) x0 1 : Int32).toNatClampNeg x2) (x0 + 4) ((tf_up (tf_up h.1 (x0 + 2) (h.1 x0 1 : Int32).toNatClampNeg x1) (x0 + 3) ((tf_up h.1 (x0 + 2) (h.1 x0 1 : Int32).toNatClampNeg x1) x0 1 : Int32).toNatClampNeg x2) x0 1 : Int32).toNatClampNeg x3) (x0 + 5) ((tf_up (tf_up (tf_up h.1 (x0 + 2) (h.1 x0 1 : Int32).toNatClampNeg x1) (x0 + 3) ((tf_up h.1 (x0 + 2) (h.1 x0 1 : Int32).toNatClampNeg x1) x0 1 : Int32).toNatClampNeg x2) (x0 + 4) ((tf_up (tf_up h.1 (x0 + 2) (h.1 x0 1 : Int32).toNatClampNeg x1) (x0 + 3) ((tf_up h.1 (x0 + 2) (h.1 x0 1 : Int32).toNatClampNeg x1) x0 1 : Int32).toNatClampNeg x2) x0 1 : Int32).toNatClampNeg x3) x0 1 : Int32).toNatClampNeg x4) x0 1 : Int32).toNatClampNeg 0) (x0 + 7) ((tf_up (tf_up (tf_up (tf_up (tf_up h.1 (x0 + 2) (h.1 x0 1 : Int32).toNatClampNeg x1) (x0 + 3) ((tf_up h.1 (x0 + 2) (h.1 x0 1 : Int32).toNatClampNeg x1) x0 1 : Int32).toNatClampNeg x2) (x0 + 4) ((tf_up (tf_up h.1 (x0 + 2) (h.1 x0 1 : Int32).toNatClampNeg x1) (x0 + 3) ((tf_up h.1 (x0 + 2) (h.1 x0 1 : Int32).toNatClampNeg x1) x0 1 : Int32).toNatClampNeg x2) x0 1 : Int32).toNatClampNeg x3) (x0 + 5) ((tf_up (tf_up (tf_up h.1 (x0 + 2) (h.1 x0 1 : Int32).toNatClampNeg x1) (x0 + 3) ((tf_up h.1 (x0 + 2) (h.1 x0 1 : Int32).toNatClampNeg x1) x0 1 : Int32).toNatClampNeg x2) (x0 + 4) ((tf_up (tf_up h.1 (x0 + 2) (h.1 x0 1 : Int32).toNatClampNeg x1) (x0 + 3) ((tf_up h.1 (x0 + 2) (h.1 x0 1 : Int32).toNatClampNeg x1) x0 1 : Int32).toNatClampNeg x2) x0 1 : Int32).toNatClampNeg x3) x0 1 : Int32).toNatClampNeg x4) (x0 + 6) ((tf_up (tf_up (tf_up (tf_up h.1 (x0 + 2) (h.1 x0 1 : Int32).toNatClampNeg x1) (x0 + 3) ((tf_up h.1 (x0 + 2) (h.1 x0 1 : Int32).toNatClampNeg x1) x0 1 : Int32).toNatClampNeg x2) (x0 + 4) ((tf_up (tf_up h.1 (x0 + 2) (h.1 x0 1 : Int32).toNatClampNeg x1) (x0 + 3) ((tf_up h.1 (x0 + 2) (h.1 x0 1 : Int32).toNatClampNeg x1) x0 1 : Int32).toNatClampNeg x2) x0 1 : Int32).toNatClampNeg x3) (x0 + 5) ((tf_up (tf_up (tf_up h.1 (x0 + 2) (h.1 x0 1 : Int32).toNatClampNeg x1) (x0 + 3) ((tf_up h.1 (x0 + 2) (h.1 x0 1 : Int32).toNatClampNeg x1) x0 1 : Int32).toNatClampNeg x2) (x0 + 4) ((tf_up (tf_up h.1 (x0 + 2) (h.1 x0 1 : Int32).toNatClampNeg x1) (x0 + 3) ((tf_up h.1 (x0 + 2) (h.1 x0 1 : Int32).toNatClampNeg x1) x0 1 : Int32).toNatClampNeg x2) x0 1 : Int32).toNatClampNeg x3) x0 1 : Int32).toNatClampNeg x4) x0 1 : Int32).toNatClampNeg 0) x0 1 : Int32).toNatClampNeg 0) x0 1 (((tf_up (tf_up (tf_up (tf_up (tf_up (tf_up h.1 (x0 + 2) (h.1 x0 1 : Int32).toNatClampNeg x1) (x0 + 3) ((tf_up h.1 (x0 + 2) (h.1 x0 1 : Int32).toNatClampNeg x1) x0 1 : Int32).toNatClampNeg x2) (x0 + 4) ((tf_up (tf_up h.1 (x0 + 2) (h.1 x0 1 : Int32).toNatClampNeg x1) (x0 + 3) ((tf_up h.1 (x0 + 2) (h.1 x0 1 : Int32).toNatClampNeg x1) x0 1 : Int32).toNatClampNeg x2) x0 1 : Int32).toNatClampNeg x3) (x0 + 5) ((tf_up (tf_up (tf_up h.1 (x0 + 2) (h.1 x0 1 : Int32).toNatClampNeg x1) (x0 + 3) ((tf_up h.1 (x0 + 2) (h.1 x0 1 : Int32).toNatClampNeg x1) x0 1 : Int32).toNatClampNeg x2) (x0 + 4) ((tf_up (tf_up h.1 (x0 + 2) (h.1 x0 1 : Int32).toNatClampNeg x1) (x0 + 3) ((tf_up h.1 (x0 + 2) (h.1 x0 1 : Int32).toNatClampNeg x1) x0 1 : Int32).toNatClampNeg x2) x0 1 : Int32).toNatClampNeg x3) x0 1 : Int32).toNatClampNeg x4) (x0 + 6) ((tf_up (tf_up (tf_up (tf_up h.1 (x0 + 2) (h.1 x0 1 : Int32).toNatClampNeg x1) (x0 + 3) ((tf_up h.1 (x0 + 2) (h.1 x0 1 : Int32).toNatClampNeg x1) x0 1 : Int32).toNatClampNeg x2) (x0 + 4) ((tf_up (tf_up h.1 (x0 + 2) (h.1 x0 1 : Int32).toNatClampNeg x1) (x0 + 3) ((tf_up h.1 (x0 + 2) (h.1 x0 1 : Int32).toNatClampNeg x1) x0 1 : Int32).toNatClampNeg x2) x0 1 : Int32).toNatClampNeg x3) (x0 + 5) ((tf_up (tf_up (tf_up h.1 (x0 + 2) (h.1 x0 1 : Int32).toNatClampNeg x1) (x0 + 3) ((tf_up h.1 (x0 + 2) (h.1 x0 1 : Int32).toNatClampNeg x1) x0 1 : Int32).toNatClampNeg x2) (x0 + 4) ((tf_up (tf_up h.1 (x0 + 2) (h.1 x0 1 : Int32).toNatClampNeg x1) (x0 + 3) ((tf_up h.1 (x0 + 2) (h.1 x0 1 : Int32).toNatClampNeg x1) x0 1 : Int32).toNatClampNeg x2) x0 1 : Int32).toNatClampNeg x3) x0 1 : Int32).toNatClampNeg x4) x0 1 : Int32).toNatClampNeg 0) (x0 + 7) ((tf_up (tf_up (tf_up (tf_up (tf_up h.1 (x0 + 2) (h.1 x0 1 : Int32).toNatClampNeg x1) (x0 + 3) ((tf_up h.1 (x0 + 2) (h.1 x0 1 : Int32).toNatClampNeg x1) x0 1 : Int32).toNatClampNeg x2) (x0 + 4) ((tf_up (tf_up h.1 (x0 + 2) (h.1 x0 1 : Int32).toNatClampNeg x1) (x0 + 3) ((tf_up h.1 (x0 + 2) (h.1 x0 1 : Int32).toNatClampNeg x1) x0 1 : Int32).toNatClampNeg x2) x0 1 : Int32).toNatClampNeg x3) (x0 + 5) ((tf_up (tf_up (tf_up h.1 (x0 + 2) (h.1 x0 1 : Int32).toNatClampNeg x1) (x0 + 3) ((tf_up h.1 (x0 + 2) (h.1 x0 1 : Int32).toNatClampNeg x1) x0 1 : Int32).toNatClampNeg x2) (x0 + 4) ((tf_up (tf_up h.1 (x0 + 2) (h.1 x0 1 : Int32).toNatClampNeg x1) (x0 + 3) ((tf_up h.1 (x0 + 2) (h.1 x0 1 : Int32).toNatClampNeg x1) x0 1 : Int32).toNatClampNeg x2) x0 1 : Int32).toNatClampNeg x3) x0 1 : Int32).toNatClampNeg x4) (x0 + 6) ((tf_up (tf_up (tf_up (tf_up h.1 (x0 + 2) (h.1 x0 1 : Int32).toNatClampNeg x1) (x0 + 3) ((tf_up h.1 (x0 + 2) (h.1 x0 1 : Int32).toNatClampNeg x1) x0 1 : Int32).toNatClampNeg x2) (x0 + 4) ((tf_up (tf_up h.1 (x0 + 2) (h.1 x0 1 : Int32).toNatClampNeg x1) (x0 + 3) ((tf_up h.1 (x0 + 2) (h.1 x0 1 : Int32).toNatClampNeg x1) x0 1 : Int32).toNatClampNeg x2) x0 1 : Int32).toNatClampNeg x3) (x0 + 5) ((tf_up (tf_up (tf_up h.1 (x0 + 2) (h.1 x0 1 : Int32).toNatClampNeg x1) (x0 + 3) ((tf_up h.1 (x0 + 2) (h.1 x0 1 : Int32).toNatClampNeg x1) x0 1 : Int32).toNatClampNeg x2) (x0 + 4) ((tf_up (tf_up h.1 (x0 + 2) (h.1 x0 1 : Int32).toNatClampNeg x1) (x0 + 3) ((tf_up h.1 (x0 + 2) (h.1 x0 1 : Int32).toNatClampNeg x1) x0 1 : Int32).toNatClampNeg x2) x0 1 : Int32).toNatClampNeg x3) x0 1 : Int32).toNatClampNeg x4) x0 1 : Int32).toNatClampNeg 0) x0 1 : Int32).toNatClampNeg 0) x0 1) + 1), h.2)) : lx_X1_addArc nc C Q 10 [.ref (x0), .int (x1), .int (x2), .int (x3), .int (x4)] [] h := by
  obtain ⟨Bx0, ⟨Kx0_1, Kx0_2, Kx0_3, Kx0_4, Kx0_5, Kx0_6, Kx0_7, Kx0_8, Kx0_9, Kx0_10, Kx0_11, Kx0_12, Kx0_13, Kx0_14⟩, ⟨Nx0_1, Nx0_2, Nx0_3, Nx0_4, Nx0_5, Nx0_6, Nx0_7, Nx0_8, Nx0_9, Nx0_10, Nx0_12, Nx0_13, Nx0_14⟩⟩ := tn_net Kx0_0
  refine tf_LW_go ?_
  show (tf_K x0 = 0 ∧ x0 < nc) ∧ (tf_K x0 = 0 ∧ x0 < nc) ∧ (tf_K (tf_R x0 4) = 8 ∧ (tf_R x0 4) < nc ∧ vp_in (h.1 x0 1) (tf_N (tf_R x0 4))) ∧ (tf_K x0 = 0 ∧ x0 < nc) ∧ (tf_K x0 = 0 ∧ x0 < nc) ∧ (tf_K (tf_R x0 5) = 8 ∧ (tf_R x0 5) < nc ∧ vp_in ((tf_up h.1 (tf_R x0 4) (h.1 x0 1 : Int32).toNatClampNeg x1) x0 1) (tf_N (tf_R x0 5))) ∧ (tf_K x0 = 0 ∧ x0 < nc) ∧ (tf_K x0 = 0 ∧ x0 < nc) ∧ (tf_K (tf_R x0 6) = 8 ∧ (tf_R x0 6) < nc ∧ vp_in ((tf_up (tf_up h.1 (tf_R x0 4) (h.1 x0 1 : Int32).toNatClampNeg x1) (tf_R x0 5) ((tf_up h.1 (tf_R x0 4) (h.1 x0 1 : Int32).toNatClampNeg x1) x0 1 : Int32).toNatClampNeg x2) x0 1) (tf_N (tf_R x0 6))) ∧ (tf_K x0 = 0 ∧ x0 < nc) ∧ (tf_K x0 = 0 ∧ x0 < nc) ∧ (tf_K (tf_R x0 7) = 8 ∧ (tf_R x0 7) < nc ∧ vp_in ((tf_up (tf_up (tf_up h.1 (tf_R x0 4) (h.1 x0 1 : Int32).toNatClampNeg x1) (tf_R x0 5) ((tf_up h.1 (tf_R x0 4) (h.1 x0 1 : Int32).toNatClampNeg x1) x0 1 : Int32).toNatClampNeg x2) (tf_R x0 6) ((tf_up (tf_up h.1 (tf_R x0 4) (h.1 x0 1 : Int32).toNatClampNeg x1) (tf_R x0 5) ((tf_up h.1 (tf_R x0 4) (h.1 x0 1 : Int32).toNatClampNeg x1) x0 1 : Int32).toNatClampNeg x2) x0 1 : Int32).toNatClampNeg x3) x0 1) (tf_N (tf_R x0 7))) ∧ (tf_K x0 = 0 ∧ x0 < nc) ∧ (tf_K x0 = 0 ∧ x0 < nc) ∧ (tf_K (tf_R x0 8) = 8 ∧ (tf_R x0 8) < nc ∧ vp_in ((tf_up (tf_up (tf_up (tf_up h.1 (tf_R x0 4) (h.1 x0 1 : Int32).toNatClampNeg x1) (tf_R x0 5) ((tf_up h.1 (tf_R x0 4) (h.1 x0 1 : Int32).toNatClampNeg x1) x0 1 : Int32).toNatClampNeg x2) (tf_R x0 6) ((tf_up (tf_up h.1 (tf_R x0 4) (h.1 x0 1 : Int32).toNatClampNeg x1) (tf_R x0 5) ((tf_up h.1 (tf_R x0 4) (h.1 x0 1 : Int32).toNatClampNeg x1) x0 1 : Int32).toNatClampNeg x2) x0 1 : Int32).toNatClampNeg x3) (tf_R x0 7) ((tf_up (tf_up (tf_up h.1 (tf_R x0 4) (h.1 x0 1 : Int32).toNatClampNeg x1) (tf_R x0 5) ((tf_up h.1 (tf_R x0 4) (h.1 x0 1 : Int32).toNatClampNeg x1) x0 1 : Int32).toNatClampNeg x2) (tf_R x0 6) ((tf_up (tf_up h.1 (tf_R x0 4) (h.1 x0 1 : Int32).toNatClampNeg x1) (tf_R x0 5) ((tf_up h.1 (tf_R x0 4) (h.1 x0 1 : Int32).toNatClampNeg x1) x0 1 : Int32).toNatClampNeg x2) x0 1 : Int32).toNatClampNeg x3) x0 1 : Int32).toNatClampNeg x4) x0 1) (tf_N (tf_R x0 8))) ∧ (tf_K x0 = 0 ∧ x0 < nc) ∧ (tf_K x0 = 0 ∧ x0 < nc) ∧ (tf_K (tf_R x0 9) = 8 ∧ (tf_R x0 9) < nc ∧ vp_in ((tf_up (tf_up (tf_up (tf_up (tf_up h.1 (tf_R x0 4) (h.1 x0 1 : Int32).toNatClampNeg x1) (tf_R x0 5) ((tf_up h.1 (tf_R x0 4) (h.1 x0 1 : Int32).toNatClampNeg x1) x0 1 : Int32).toNatClampNeg x2) (tf_R x0 6) ((tf_up (tf_up h.1 (tf_R x0 4) (h.1 x0 1 : Int32).toNatClampNeg x1) (tf_R x0 5) ((tf_up h.1 (tf_R x0 4) (h.1 x0 1 : Int32).toNatClampNeg x1) x0 1 : Int32).toNatClampNeg x2) x0 1 : Int32).toNatClampNeg x3) (tf_R x0 7) ((tf_up (tf_up (tf_up h.1 (tf_R x0 4) (h.1 x0 1 : Int32).toNatClampNeg x1) (tf_R x0 5) ((tf_up h.1 (tf_R x0 4) (h.1 x0 1 : Int32).toNatClampNeg x1) x0 1 : Int32).toNatClampNeg x2) (tf_R x0 6) ((tf_up (tf_up h.1 (tf_R x0 4) (h.1 x0 1 : Int32).toNatClampNeg x1) (tf_R x0 5) ((tf_up h.1 (tf_R x0 4) (h.1 x0 1 : Int32).toNatClampNeg x1) x0 1 : Int32).toNatClampNeg x2) x0 1 : Int32).toNatClampNeg x3) x0 1 : Int32).toNatClampNeg x4) (tf_R x0 8) ((tf_up (tf_up (tf_up (tf_up h.1 (tf_R x0 4) (h.1 x0 1 : Int32).toNatClampNeg x1) (tf_R x0 5) ((tf_up h.1 (tf_R x0 4) (h.1 x0 1 : Int32).toNatClampNeg x1) x0 1 : Int32).toNatClampNeg x2) (tf_R x0 6) ((tf_up (tf_up h.1 (tf_R x0 4) (h.1 x0 1 : Int32).toNatClampNeg x1) (tf_R x0 5) ((tf_up h.1 (tf_R x0 4) (h.1 x0 1 : Int32).toNatClampNeg x1) x0 1 : Int32).toNatClampNeg x2) x0 1 : Int32).toNatClampNeg x3) (tf_R x0 7) ((tf_up (tf_up (tf_up h.1 (tf_R x0 4) (h.1 x0 1 : Int32).toNatClampNeg x1) (tf_R x0 5) ((tf_up h.1 (tf_R x0 4) (h.1 x0 1 : Int32).toNatClampNeg x1) x0 1 : Int32).toNatClampNeg x2) (tf_R x0 6) ((tf_up (tf_up h.1 (tf_R x0 4) (h.1 x0 1 : Int32).toNatClampNeg x1) (tf_R x0 5) ((tf_up h.1 (tf_R x0 4) (h.1 x0 1 : Int32).toNatClampNeg x1) x0 1 : Int32).toNatClampNeg x2) x0 1 : Int32).toNatClampNeg x3) x0 1 : Int32).toNatClampNeg x4) x0 1 : Int32).toNatClampNeg 0) x0 1) (tf_N (tf_R x0 9))) ∧ (tf_K x0 = 0 ∧ x0 < nc) ∧ (tf_K x0 = 0 ∧ x0 < nc ∧ tf_S 0 1 = 0) ∧ 0 = 0 ∧ Q tf_z (tf_up (tf_up (tf_up (tf_up (tf_up (tf_up (tf_up h.1 (tf_R x0 4) (h.1 x0 1 : Int32).toNatClampNeg x1) (tf_R x0 5) ((tf_up h.1 (tf_R x0 4) (h.1 x0 1 : Int32).toNatClampNeg x1) x0 1 : Int32).toNatClampNeg x2) (tf_R x0 6) ((tf_up (tf_up h.1 (tf_R x0 4) (h.1 x0 1 : Int32).toNatClampNeg x1) (tf_R x0 5) ((tf_up h.1 (tf_R x0 4) (h.1 x0 1 : Int32).toNatClampNeg x1) x0 1 : Int32).toNatClampNeg x2) x0 1 : Int32).toNatClampNeg x3) (tf_R x0 7) ((tf_up (tf_up (tf_up h.1 (tf_R x0 4) (h.1 x0 1 : Int32).toNatClampNeg x1) (tf_R x0 5) ((tf_up h.1 (tf_R x0 4) (h.1 x0 1 : Int32).toNatClampNeg x1) x0 1 : Int32).toNatClampNeg x2) (tf_R x0 6) ((tf_up (tf_up h.1 (tf_R x0 4) (h.1 x0 1 : Int32).toNatClampNeg x1) (tf_R x0 5) ((tf_up h.1 (tf_R x0 4) (h.1 x0 1 : Int32).toNatClampNeg x1) x0 1 : Int32).toNatClampNeg x2) x0 1 : Int32).toNatClampNeg x3) x0 1 : Int32).toNatClampNeg x4) (tf_R x0 8) ((tf_up (tf_up (tf_up (tf_up h.1 (tf_R x0 4) (h.1 x0 1 : Int32).toNatClampNeg x1) (tf_R x0 5) ((tf_up h.1 (tf_R x0 4) (h.1 x0 1 : Int32).toNatClampNeg x1) x0 1 : Int32).toNatClampNeg x2) (tf_R x0 6) ((tf_up (tf_up h.1 (tf_R x0 4) (h.1 x0 1 : Int32).toNatClampNeg x1) (tf_R x0 5) ((tf_up h.1 (tf_R x0 4) (h.1 x0 1 : Int32).toNatClampNeg x1) x0 1 : Int32).toNatClampNeg x2) x0 1 : Int32).toNatClampNeg x3) (tf_R x0 7) ((tf_up (tf_up (tf_up h.1 (tf_R x0 4) (h.1 x0 1 : Int32).toNatClampNeg x1) (tf_R x0 5) ((tf_up h.1 (tf_R x0 4) (h.1 x0 1 : Int32).toNatClampNeg x1) x0 1 : Int32).toNatClampNeg x2) (tf_R x0 6) ((tf_up (tf_up h.1 (tf_R x0 4) (h.1 x0 1 : Int32).toNatClampNeg x1) (tf_R x0 5) ((tf_up h.1 (tf_R x0 4) (h.1 x0 1 : Int32).toNatClampNeg x1) x0 1 : Int32).toNatClampNeg x2) x0 1 : Int32).toNatClampNeg x3) x0 1 : Int32).toNatClampNeg x4) x0 1 : Int32).toNatClampNeg 0) (tf_R x0 9) ((tf_up (tf_up (tf_up (tf_up (tf_up h.1 (tf_R x0 4) (h.1 x0 1 : Int32).toNatClampNeg x1) (tf_R x0 5) ((tf_up h.1 (tf_R x0 4) (h.1 x0 1 : Int32).toNatClampNeg x1) x0 1 : Int32).toNatClampNeg x2) (tf_R x0 6) ((tf_up (tf_up h.1 (tf_R x0 4) (h.1 x0 1 : Int32).toNatClampNeg x1) (tf_R x0 5) ((tf_up h.1 (tf_R x0 4) (h.1 x0 1 : Int32).toNatClampNeg x1) x0 1 : Int32).toNatClampNeg x2) x0 1 : Int32).toNatClampNeg x3) (tf_R x0 7) ((tf_up (tf_up (tf_up h.1 (tf_R x0 4) (h.1 x0 1 : Int32).toNatClampNeg x1) (tf_R x0 5) ((tf_up h.1 (tf_R x0 4) (h.1 x0 1 : Int32).toNatClampNeg x1) x0 1 : Int32).toNatClampNeg x2) (tf_R x0 6) ((tf_up (tf_up h.1 (tf_R x0 4) (h.1 x0 1 : Int32).toNatClampNeg x1) (tf_R x0 5) ((tf_up h.1 (tf_R x0 4) (h.1 x0 1 : Int32).toNatClampNeg x1) x0 1 : Int32).toNatClampNeg x2) x0 1 : Int32).toNatClampNeg x3) x0 1 : Int32).toNatClampNeg x4) (tf_R x0 8) ((tf_up (tf_up (tf_up (tf_up h.1 (tf_R x0 4) (h.1 x0 1 : Int32).toNatClampNeg x1) (tf_R x0 5) ((tf_up h.1 (tf_R x0 4) (h.1 x0 1 : Int32).toNatClampNeg x1) x0 1 : Int32).toNatClampNeg x2) (tf_R x0 6) ((tf_up (tf_up h.1 (tf_R x0 4) (h.1 x0 1 : Int32).toNatClampNeg x1) (tf_R x0 5) ((tf_up h.1 (tf_R x0 4) (h.1 x0 1 : Int32).toNatClampNeg x1) x0 1 : Int32).toNatClampNeg x2) x0 1 : Int32).toNatClampNeg x3) (tf_R x0 7) ((tf_up (tf_up (tf_up h.1 (tf_R x0 4) (h.1 x0 1 : Int32).toNatClampNeg x1) (tf_R x0 5) ((tf_up h.1 (tf_R x0 4) (h.1 x0 1 : Int32).toNatClampNeg x1) x0 1 : Int32).toNatClampNeg x2) (tf_R x0 6) ((tf_up (tf_up h.1 (tf_R x0 4) (h.1 x0 1 : Int32).toNatClampNeg x1) (tf_R x0 5) ((tf_up h.1 (tf_R x0 4) (h.1 x0 1 : Int32).toNatClampNeg x1) x0 1 : Int32).toNatClampNeg x2) x0 1 : Int32).toNatClampNeg x3) x0 1 : Int32).toNatClampNeg x4) x0 1 : Int32).toNatClampNeg 0) x0 1 : Int32).toNatClampNeg 0) x0 1 (((tf_up (tf_up (tf_up (tf_up (tf_up (tf_up h.1 (tf_R x0 4) (h.1 x0 1 : Int32).toNatClampNeg x1) (tf_R x0 5) ((tf_up h.1 (tf_R x0 4) (h.1 x0 1 : Int32).toNatClampNeg x1) x0 1 : Int32).toNatClampNeg x2) (tf_R x0 6) ((tf_up (tf_up h.1 (tf_R x0 4) (h.1 x0 1 : Int32).toNatClampNeg x1) (tf_R x0 5) ((tf_up h.1 (tf_R x0 4) (h.1 x0 1 : Int32).toNatClampNeg x1) x0 1 : Int32).toNatClampNeg x2) x0 1 : Int32).toNatClampNeg x3) (tf_R x0 7) ((tf_up (tf_up (tf_up h.1 (tf_R x0 4) (h.1 x0 1 : Int32).toNatClampNeg x1) (tf_R x0 5) ((tf_up h.1 (tf_R x0 4) (h.1 x0 1 : Int32).toNatClampNeg x1) x0 1 : Int32).toNatClampNeg x2) (tf_R x0 6) ((tf_up (tf_up h.1 (tf_R x0 4) (h.1 x0 1 : Int32).toNatClampNeg x1) (tf_R x0 5) ((tf_up h.1 (tf_R x0 4) (h.1 x0 1 : Int32).toNatClampNeg x1) x0 1 : Int32).toNatClampNeg x2) x0 1 : Int32).toNatClampNeg x3) x0 1 : Int32).toNatClampNeg x4) (tf_R x0 8) ((tf_up (tf_up (tf_up (tf_up h.1 (tf_R x0 4) (h.1 x0 1 : Int32).toNatClampNeg x1) (tf_R x0 5) ((tf_up h.1 (tf_R x0 4) (h.1 x0 1 : Int32).toNatClampNeg x1) x0 1 : Int32).toNatClampNeg x2) (tf_R x0 6) ((tf_up (tf_up h.1 (tf_R x0 4) (h.1 x0 1 : Int32).toNatClampNeg x1) (tf_R x0 5) ((tf_up h.1 (tf_R x0 4) (h.1 x0 1 : Int32).toNatClampNeg x1) x0 1 : Int32).toNatClampNeg x2) x0 1 : Int32).toNatClampNeg x3) (tf_R x0 7) ((tf_up (tf_up (tf_up h.1 (tf_R x0 4) (h.1 x0 1 : Int32).toNatClampNeg x1) (tf_R x0 5) ((tf_up h.1 (tf_R x0 4) (h.1 x0 1 : Int32).toNatClampNeg x1) x0 1 : Int32).toNatClampNeg x2) (tf_R x0 6) ((tf_up (tf_up h.1 (tf_R x0 4) (h.1 x0 1 : Int32).toNatClampNeg x1) (tf_R x0 5) ((tf_up h.1 (tf_R x0 4) (h.1 x0 1 : Int32).toNatClampNeg x1) x0 1 : Int32).toNatClampNeg x2) x0 1 : Int32).toNatClampNeg x3) x0 1 : Int32).toNatClampNeg x4) x0 1 : Int32).toNatClampNeg 0) (tf_R x0 9) ((tf_up (tf_up (tf_up (tf_up (tf_up h.1 (tf_R x0 4) (h.1 x0 1 : Int32).toNatClampNeg x1) (tf_R x0 5) ((tf_up h.1 (tf_R x0 4) (h.1 x0 1 : Int32).toNatClampNeg x1) x0 1 : Int32).toNatClampNeg x2) (tf_R x0 6) ((tf_up (tf_up h.1 (tf_R x0 4) (h.1 x0 1 : Int32).toNatClampNeg x1) (tf_R x0 5) ((tf_up h.1 (tf_R x0 4) (h.1 x0 1 : Int32).toNatClampNeg x1) x0 1 : Int32).toNatClampNeg x2) x0 1 : Int32).toNatClampNeg x3) (tf_R x0 7) ((tf_up (tf_up (tf_up h.1 (tf_R x0 4) (h.1 x0 1 : Int32).toNatClampNeg x1) (tf_R x0 5) ((tf_up h.1 (tf_R x0 4) (h.1 x0 1 : Int32).toNatClampNeg x1) x0 1 : Int32).toNatClampNeg x2) (tf_R x0 6) ((tf_up (tf_up h.1 (tf_R x0 4) (h.1 x0 1 : Int32).toNatClampNeg x1) (tf_R x0 5) ((tf_up h.1 (tf_R x0 4) (h.1 x0 1 : Int32).toNatClampNeg x1) x0 1 : Int32).toNatClampNeg x2) x0 1 : Int32).toNatClampNeg x3) x0 1 : Int32).toNatClampNeg x4) (tf_R x0 8) ((tf_up (tf_up (tf_up (tf_up h.1 (tf_R x0 4) (h.1 x0 1 : Int32).toNatClampNeg x1) (tf_R x0 5) ((tf_up h.1 (tf_R x0 4) (h.1 x0 1 : Int32).toNatClampNeg x1) x0 1 : Int32).toNatClampNeg x2) (tf_R x0 6) ((tf_up (tf_up h.1 (tf_R x0 4) (h.1 x0 1 : Int32).toNatClampNeg x1) (tf_R x0 5) ((tf_up h.1 (tf_R x0 4) (h.1 x0 1 : Int32).toNatClampNeg x1) x0 1 : Int32).toNatClampNeg x2) x0 1 : Int32).toNatClampNeg x3) (tf_R x0 7) ((tf_up (tf_up (tf_up h.1 (tf_R x0 4) (h.1 x0 1 : Int32).toNatClampNeg x1) (tf_R x0 5) ((tf_up h.1 (tf_R x0 4) (h.1 x0 1 : Int32).toNatClampNeg x1) x0 1 : Int32).toNatClampNeg x2) (tf_R x0 6) ((tf_up (tf_up h.1 (tf_R x0 4) (h.1 x0 1 : Int32).toNatClampNeg x1) (tf_R x0 5) ((tf_up h.1 (tf_R x0 4) (h.1 x0 1 : Int32).toNatClampNeg x1) x0 1 : Int32).toNatClampNeg x2) x0 1 : Int32).toNatClampNeg x3) x0 1 : Int32).toNatClampNeg x4) x0 1 : Int32).toNatClampNeg 0) x0 1 : Int32).toNatClampNeg 0) x0 1) + 1), h.2)
  try simp only [(show tf_R x0 4 = x0 + 2 by rw [tn_R0 Kx0_0]; try omega), (show tf_R x0 5 = x0 + 3 by rw [tn_R0 Kx0_0]; try omega), (show tf_R x0 6 = x0 + 4 by rw [tn_R0 Kx0_0]; try omega), (show tf_R x0 7 = x0 + 5 by rw [tn_R0 Kx0_0]; try omega), (show tf_R x0 8 = x0 + 6 by rw [tn_R0 Kx0_0]; try omega), (show tf_R x0 9 = x0 + 7 by rw [tn_R0 Kx0_0]; try omega), Nx0_2, Nx0_3, Nx0_4, Nx0_5, Nx0_6, Nx0_7]
  exact ⟨⟨Kx0_0, (show x0 < nc by omega)⟩, ⟨⟨Kx0_0, (show x0 < nc by omega)⟩, ⟨⟨Kx0_2, (show x0 + 2 < nc by omega), q.1⟩, ⟨⟨Kx0_0, (show x0 < nc by omega)⟩, ⟨⟨Kx0_0, (show x0 < nc by omega)⟩, ⟨⟨Kx0_3, (show x0 + 3 < nc by omega), q.2.1⟩, ⟨⟨Kx0_0, (show x0 < nc by omega)⟩, ⟨⟨Kx0_0, (show x0 < nc by omega)⟩, ⟨⟨Kx0_4, (show x0 + 4 < nc by omega), q.2.2.1⟩, ⟨⟨Kx0_0, (show x0 < nc by omega)⟩, ⟨⟨Kx0_0, (show x0 < nc by omega)⟩, ⟨⟨Kx0_5, (show x0 + 5 < nc by omega), q.2.2.2.1⟩, ⟨⟨Kx0_0, (show x0 < nc by omega)⟩, ⟨⟨Kx0_0, (show x0 < nc by omega)⟩, ⟨⟨Kx0_6, (show x0 + 6 < nc by omega), q.2.2.2.2.1⟩, ⟨⟨Kx0_0, (show x0 < nc by omega)⟩, ⟨⟨Kx0_0, (show x0 < nc by omega)⟩, ⟨⟨Kx0_7, (show x0 + 7 < nc by omega), q.2.2.2.2.2.1⟩, ⟨⟨Kx0_0, (show x0 < nc by omega)⟩, ⟨⟨Kx0_0, (show x0 < nc by omega), (by first | rfl | trivial)⟩, ⟨(by first | rfl | trivial), q.2.2.2.2.2.2⟩⟩⟩⟩⟩⟩⟩⟩⟩⟩⟩⟩⟩⟩⟩⟩⟩⟩⟩⟩⟩
abbrev lx_X1_hasArc (nc : Nat) (C : tf_C) (Q : tf_Q) : tf_X := tf_LW nc C (tf_F 0) (tf_M 0) (tf_I 0) (tf_Eh 119) 2 tb_X1_hasArc Q
set_option maxRecDepth 100000 in
theorem go_X1_hasArc_0 {nc : Nat} {C : tf_C} {Q : tf_Q} {h : LH} (hn : 270 ≤ nc) {x0 : Nat} {x1 : Int32} (Kx0_0 : tf_K x0 = 0) (q : (x1 < (0 : Int32) → lx_X1_hasArc nc C Q 16 [.ref (x0), .int (x1)] [] h) ∧ (¬ x1 < (0 : Int32) → ((h.1 x0 1) ≤ x1 → lx_X1_hasArc nc C Q 16 [.ref (x0), .int (x1)] [] h) ∧ (¬ (h.1 x0 1) ≤ x1 → lx_X1_hasArc nc C Q 17 [.ref (x0), .int (x1)] [.int (1)] h))) : lx_X1_hasArc nc C Q 0 [.ref (x0), .int (x1)] [] h := by
  obtain ⟨Bx0, ⟨Kx0_1, Kx0_2, Kx0_3, Kx0_4, Kx0_5, Kx0_6, Kx0_7, Kx0_8, Kx0_9, Kx0_10, Kx0_11, Kx0_12, Kx0_13, Kx0_14⟩, ⟨Nx0_1, Nx0_2, Nx0_3, Nx0_4, Nx0_5, Nx0_6, Nx0_7, Nx0_8, Nx0_9, Nx0_10, Nx0_12, Nx0_13, Nx0_14⟩⟩ := tn_net Kx0_0
  refine tf_LW_go ?_
  exact ⟨q.1, fun c2 => ⟨⟨Kx0_0, (show x0 < nc by omega)⟩, ⟨(q.2 c2).1, fun c1 => ((q.2 c2).2 c1)⟩⟩⟩
theorem en_X1_hasArc {nc d : Nat} {Q : tf_Q} {h : LH} (hn : 270 ≤ nc) {x0 : Nat} {x1 : Int32} (Kx0_0 : tf_K x0 = 0) (q : lx_X1_hasArc nc (tf_Cd nc d) Q 0 [.ref (x0), .int (x1)] [] h) : tf_Cd nc (d + 1) 119 [.ref (x0), .int (x1)] h Q := by
  obtain ⟨Bx0, ⟨Kx0_1, Kx0_2, Kx0_3, Kx0_4, Kx0_5, Kx0_6, Kx0_7, Kx0_8, Kx0_9, Kx0_10, Kx0_11, Kx0_12, Kx0_13, Kx0_14⟩, ⟨Nx0_1, Nx0_2, Nx0_3, Nx0_4, Nx0_5, Nx0_6, Nx0_7, Nx0_8, Nx0_9, Nx0_10, Nx0_12, Nx0_13, Nx0_14⟩⟩ := tn_net Kx0_0
  exact ⟨⟨Nat.le_of_ble_eq_true rfl, Or.inr ⟨Kx0_0, (show x0 < nc by omega)⟩⟩, q⟩
set_option maxRecDepth 100000 in
theorem go_X1_hasArc_16 {nc : Nat} {C : tf_C} {Q : tf_Q} {h : LH} (hn : 270 ≤ nc) {x0 : Nat} {x1 : Int32} (Kx0_0 : tf_K x0 = 0) (q : lx_X1_hasArc nc C Q 17 [.ref (x0), .int (x1)] [.int (0)] h) : lx_X1_hasArc nc C Q 16 [.ref (x0), .int (x1)] [] h := by
  obtain ⟨Bx0, ⟨Kx0_1, Kx0_2, Kx0_3, Kx0_4, Kx0_5, Kx0_6, Kx0_7, Kx0_8, Kx0_9, Kx0_10, Kx0_11, Kx0_12, Kx0_13, Kx0_14⟩, ⟨Nx0_1, Nx0_2, Nx0_3, Nx0_4, Nx0_5, Nx0_6, Nx0_7, Nx0_8, Nx0_9, Nx0_10, Nx0_12, Nx0_13, Nx0_14⟩⟩ := tn_net Kx0_0
  refine tf_LW_go ?_
  exact q
set_option maxRecDepth 100000 in
theorem go_X1_hasArc_17 {nc : Nat} {C : tf_C} {Q : tf_Q} {h : LH} (hn : 270 ≤ nc) {x0 : Nat} {x1 : Int32} {y0 : Int32} (Kx0_0 : tf_K x0 = 0) (q : (vp_nar .boolean (y0) = (y0)) ∧ Q (.int (y0)) h) : lx_X1_hasArc nc C Q 17 [.ref (x0), .int (x1)] [.int (y0)] h := by
  obtain ⟨Bx0, ⟨Kx0_1, Kx0_2, Kx0_3, Kx0_4, Kx0_5, Kx0_6, Kx0_7, Kx0_8, Kx0_9, Kx0_10, Kx0_11, Kx0_12, Kx0_13, Kx0_14⟩, ⟨Nx0_1, Nx0_2, Nx0_3, Nx0_4, Nx0_5, Nx0_6, Nx0_7, Nx0_8, Nx0_9, Nx0_10, Nx0_12, Nx0_13, Nx0_14⟩⟩ := tn_net Kx0_0
  refine tf_LW_go ?_
  exact q
abbrev lx_X1_hasPoint (nc : Nat) (C : tf_C) (Q : tf_Q) : tf_X := tf_LW nc C (tf_F 0) (tf_M 0) (tf_I 0) (tf_Eh 120) 2 tb_X1_hasPoint Q
set_option maxRecDepth 100000 in
theorem go_X1_hasPoint_0 {nc : Nat} {C : tf_C} {Q : tf_Q} {h : LH} (hn : 270 ≤ nc) {x0 : Nat} {x1 : Int32} (Kx0_0 : tf_K x0 = 0) (q : (x1 < (0 : Int32) → lx_X1_hasPoint nc C Q 16 [.ref (x0), .int (x1)] [] h) ∧ (¬ x1 < (0 : Int32) → ((h.1 x0 0) ≤ x1 → lx_X1_hasPoint nc C Q 16 [.ref (x0), .int (x1)] [] h) ∧ (¬ (h.1 x0 0) ≤ x1 → lx_X1_hasPoint nc C Q 17 [.ref (x0), .int (x1)] [.int (1)] h))) : lx_X1_hasPoint nc C Q 0 [.ref (x0), .int (x1)] [] h := by
  obtain ⟨Bx0, ⟨Kx0_1, Kx0_2, Kx0_3, Kx0_4, Kx0_5, Kx0_6, Kx0_7, Kx0_8, Kx0_9, Kx0_10, Kx0_11, Kx0_12, Kx0_13, Kx0_14⟩, ⟨Nx0_1, Nx0_2, Nx0_3, Nx0_4, Nx0_5, Nx0_6, Nx0_7, Nx0_8, Nx0_9, Nx0_10, Nx0_12, Nx0_13, Nx0_14⟩⟩ := tn_net Kx0_0
  refine tf_LW_go ?_
  exact ⟨q.1, fun c2 => ⟨⟨Kx0_0, (show x0 < nc by omega)⟩, ⟨(q.2 c2).1, fun c1 => ((q.2 c2).2 c1)⟩⟩⟩
theorem en_X1_hasPoint {nc d : Nat} {Q : tf_Q} {h : LH} (hn : 270 ≤ nc) {x0 : Nat} {x1 : Int32} (Kx0_0 : tf_K x0 = 0) (q : lx_X1_hasPoint nc (tf_Cd nc d) Q 0 [.ref (x0), .int (x1)] [] h) : tf_Cd nc (d + 1) 120 [.ref (x0), .int (x1)] h Q := by
  obtain ⟨Bx0, ⟨Kx0_1, Kx0_2, Kx0_3, Kx0_4, Kx0_5, Kx0_6, Kx0_7, Kx0_8, Kx0_9, Kx0_10, Kx0_11, Kx0_12, Kx0_13, Kx0_14⟩, ⟨Nx0_1, Nx0_2, Nx0_3, Nx0_4, Nx0_5, Nx0_6, Nx0_7, Nx0_8, Nx0_9, Nx0_10, Nx0_12, Nx0_13, Nx0_14⟩⟩ := tn_net Kx0_0
  exact ⟨⟨Nat.le_of_ble_eq_true rfl, Or.inr ⟨Kx0_0, (show x0 < nc by omega)⟩⟩, q⟩
set_option maxRecDepth 100000 in
theorem go_X1_hasPoint_16 {nc : Nat} {C : tf_C} {Q : tf_Q} {h : LH} (hn : 270 ≤ nc) {x0 : Nat} {x1 : Int32} (Kx0_0 : tf_K x0 = 0) (q : lx_X1_hasPoint nc C Q 17 [.ref (x0), .int (x1)] [.int (0)] h) : lx_X1_hasPoint nc C Q 16 [.ref (x0), .int (x1)] [] h := by
  obtain ⟨Bx0, ⟨Kx0_1, Kx0_2, Kx0_3, Kx0_4, Kx0_5, Kx0_6, Kx0_7, Kx0_8, Kx0_9, Kx0_10, Kx0_11, Kx0_12, Kx0_13, Kx0_14⟩, ⟨Nx0_1, Nx0_2, Nx0_3, Nx0_4, Nx0_5, Nx0_6, Nx0_7, Nx0_8, Nx0_9, Nx0_10, Nx0_12, Nx0_13, Nx0_14⟩⟩ := tn_net Kx0_0
  refine tf_LW_go ?_
  exact q
set_option maxRecDepth 100000 in
theorem go_X1_hasPoint_17 {nc : Nat} {C : tf_C} {Q : tf_Q} {h : LH} (hn : 270 ≤ nc) {x0 : Nat} {x1 : Int32} {y0 : Int32} (Kx0_0 : tf_K x0 = 0) (q : (vp_nar .boolean (y0) = (y0)) ∧ Q (.int (y0)) h) : lx_X1_hasPoint nc C Q 17 [.ref (x0), .int (x1)] [.int (y0)] h := by
  obtain ⟨Bx0, ⟨Kx0_1, Kx0_2, Kx0_3, Kx0_4, Kx0_5, Kx0_6, Kx0_7, Kx0_8, Kx0_9, Kx0_10, Kx0_11, Kx0_12, Kx0_13, Kx0_14⟩, ⟨Nx0_1, Nx0_2, Nx0_3, Nx0_4, Nx0_5, Nx0_6, Nx0_7, Nx0_8, Nx0_9, Nx0_10, Nx0_12, Nx0_13, Nx0_14⟩⟩ := tn_net Kx0_0
  refine tf_LW_go ?_
  exact q
abbrev lx_X1_hasTwoPoints (nc : Nat) (C : tf_C) (Q : tf_Q) : tf_X := tf_LW nc C (tf_F 0) (tf_M 0) (tf_I 0) (tf_Eh 121) 2 tb_X1_hasTwoPoints Q
set_option maxRecDepth 100000 in
theorem go_X1_hasTwoPoints_0 {nc : Nat} {C : tf_C} {Q : tf_Q} {h : LH} (hn : 270 ≤ nc) {x0 : Nat} {x1 : Int32} {x2 : Int32} (Kx0_0 : tf_K x0 = 0) (q : C 120 [.ref (x0), .int (x1)] h (fun r g => lx_X1_hasTwoPoints nc C Q 5 [.ref (x0), .int (x1), .int (x2)] (r :: []) g)) : lx_X1_hasTwoPoints nc C Q 0 [.ref (x0), .int (x1), .int (x2)] [] h := by
  obtain ⟨Bx0, ⟨Kx0_1, Kx0_2, Kx0_3, Kx0_4, Kx0_5, Kx0_6, Kx0_7, Kx0_8, Kx0_9, Kx0_10, Kx0_11, Kx0_12, Kx0_13, Kx0_14⟩, ⟨Nx0_1, Nx0_2, Nx0_3, Nx0_4, Nx0_5, Nx0_6, Nx0_7, Nx0_8, Nx0_9, Nx0_10, Nx0_12, Nx0_13, Nx0_14⟩⟩ := tn_net Kx0_0
  refine tf_LW_go ?_
  exact ⟨Nat.le_of_ble_eq_true rfl, Nat.le_of_ble_eq_true rfl, q⟩
theorem en_X1_hasTwoPoints {nc d : Nat} {Q : tf_Q} {h : LH} (hn : 270 ≤ nc) {x0 : Nat} {x1 : Int32} {x2 : Int32} (Kx0_0 : tf_K x0 = 0) (q : lx_X1_hasTwoPoints nc (tf_Cd nc d) Q 0 [.ref (x0), .int (x1), .int (x2)] [] h) : tf_Cd nc (d + 1) 121 [.ref (x0), .int (x1), .int (x2)] h Q := by
  obtain ⟨Bx0, ⟨Kx0_1, Kx0_2, Kx0_3, Kx0_4, Kx0_5, Kx0_6, Kx0_7, Kx0_8, Kx0_9, Kx0_10, Kx0_11, Kx0_12, Kx0_13, Kx0_14⟩, ⟨Nx0_1, Nx0_2, Nx0_3, Nx0_4, Nx0_5, Nx0_6, Nx0_7, Nx0_8, Nx0_9, Nx0_10, Nx0_12, Nx0_13, Nx0_14⟩⟩ := tn_net Kx0_0
  exact ⟨⟨Nat.le_of_ble_eq_true rfl, Or.inr ⟨Kx0_0, (show x0 < nc by omega)⟩⟩, q⟩
set_option maxRecDepth 100000 in
theorem go_X1_hasTwoPoints_5 {nc : Nat} {C : tf_C} {Q : tf_Q} {h : LH} (hn : 270 ≤ nc) {x0 : Nat} {x1 : Int32} {x2 : Int32} {y0 : Int32} (Kx0_0 : tf_K x0 = 0) (q : (y0 = (0 : Int32) → lx_X1_hasTwoPoints nc C Q 25 [.ref (x0), .int (x1), .int (x2)] [] h) ∧ (¬ y0 = (0 : Int32) → C 120 [.ref (x0), .int (x2)] h (fun r g => lx_X1_hasTwoPoints nc C Q 13 [.ref (x0), .int (x1), .int (x2)] (r :: []) g))) : lx_X1_hasTwoPoints nc C Q 5 [.ref (x0), .int (x1), .int (x2)] [.int (y0)] h := by
  obtain ⟨Bx0, ⟨Kx0_1, Kx0_2, Kx0_3, Kx0_4, Kx0_5, Kx0_6, Kx0_7, Kx0_8, Kx0_9, Kx0_10, Kx0_11, Kx0_12, Kx0_13, Kx0_14⟩, ⟨Nx0_1, Nx0_2, Nx0_3, Nx0_4, Nx0_5, Nx0_6, Nx0_7, Nx0_8, Nx0_9, Nx0_10, Nx0_12, Nx0_13, Nx0_14⟩⟩ := tn_net Kx0_0
  refine tf_LW_go ?_
  exact ⟨q.1, fun c1 => ⟨Nat.le_of_ble_eq_true rfl, Nat.le_of_ble_eq_true rfl, (q.2 c1)⟩⟩
set_option maxRecDepth 100000 in
theorem go_X1_hasTwoPoints_13 {nc : Nat} {C : tf_C} {Q : tf_Q} {h : LH} (hn : 270 ≤ nc) {x0 : Nat} {x1 : Int32} {x2 : Int32} {y0 : Int32} (Kx0_0 : tf_K x0 = 0) (q : (y0 = (0 : Int32) → lx_X1_hasTwoPoints nc C Q 25 [.ref (x0), .int (x1), .int (x2)] [] h) ∧ (¬ y0 = (0 : Int32) → (x1 = x2 → lx_X1_hasTwoPoints nc C Q 25 [.ref (x0), .int (x1), .int (x2)] [] h) ∧ (¬ x1 = x2 → lx_X1_hasTwoPoints nc C Q 26 [.ref (x0), .int (x1), .int (x2)] [.int (1)] h))) : lx_X1_hasTwoPoints nc C Q 13 [.ref (x0), .int (x1), .int (x2)] [.int (y0)] h := by
  obtain ⟨Bx0, ⟨Kx0_1, Kx0_2, Kx0_3, Kx0_4, Kx0_5, Kx0_6, Kx0_7, Kx0_8, Kx0_9, Kx0_10, Kx0_11, Kx0_12, Kx0_13, Kx0_14⟩, ⟨Nx0_1, Nx0_2, Nx0_3, Nx0_4, Nx0_5, Nx0_6, Nx0_7, Nx0_8, Nx0_9, Nx0_10, Nx0_12, Nx0_13, Nx0_14⟩⟩ := tn_net Kx0_0
  refine tf_LW_go ?_
  exact ⟨q.1, fun c2 => ⟨(q.2 c2).1, fun c1 => ((q.2 c2).2 c1)⟩⟩
set_option maxRecDepth 100000 in
theorem go_X1_hasTwoPoints_25 {nc : Nat} {C : tf_C} {Q : tf_Q} {h : LH} (hn : 270 ≤ nc) {x0 : Nat} {x1 : Int32} {x2 : Int32} (Kx0_0 : tf_K x0 = 0) (q : lx_X1_hasTwoPoints nc C Q 26 [.ref (x0), .int (x1), .int (x2)] [.int (0)] h) : lx_X1_hasTwoPoints nc C Q 25 [.ref (x0), .int (x1), .int (x2)] [] h := by
  obtain ⟨Bx0, ⟨Kx0_1, Kx0_2, Kx0_3, Kx0_4, Kx0_5, Kx0_6, Kx0_7, Kx0_8, Kx0_9, Kx0_10, Kx0_11, Kx0_12, Kx0_13, Kx0_14⟩, ⟨Nx0_1, Nx0_2, Nx0_3, Nx0_4, Nx0_5, Nx0_6, Nx0_7, Nx0_8, Nx0_9, Nx0_10, Nx0_12, Nx0_13, Nx0_14⟩⟩ := tn_net Kx0_0
  refine tf_LW_go ?_
  exact q
set_option maxRecDepth 100000 in
theorem go_X1_hasTwoPoints_26 {nc : Nat} {C : tf_C} {Q : tf_Q} {h : LH} (hn : 270 ≤ nc) {x0 : Nat} {x1 : Int32} {x2 : Int32} {y0 : Int32} (Kx0_0 : tf_K x0 = 0) (q : (vp_nar .boolean (y0) = (y0)) ∧ Q (.int (y0)) h) : lx_X1_hasTwoPoints nc C Q 26 [.ref (x0), .int (x1), .int (x2)] [.int (y0)] h := by
  obtain ⟨Bx0, ⟨Kx0_1, Kx0_2, Kx0_3, Kx0_4, Kx0_5, Kx0_6, Kx0_7, Kx0_8, Kx0_9, Kx0_10, Kx0_11, Kx0_12, Kx0_13, Kx0_14⟩, ⟨Nx0_1, Nx0_2, Nx0_3, Nx0_4, Nx0_5, Nx0_6, Nx0_7, Nx0_8, Nx0_9, Nx0_10, Nx0_12, Nx0_13, Nx0_14⟩⟩ := tn_net Kx0_0
  refine tf_LW_go ?_
  exact q
abbrev lx_X1_toldNode (nc : Nat) (C : tf_C) (Q : tf_Q) : tf_X := tf_LW nc C (tf_F 0) (tf_M 0) (tf_I 0) (tf_Eh 122) 1 tb_X1_toldNode Q
set_option maxRecDepth 100000 in
theorem go_X1_toldNode_0 {nc : Nat} {C : tf_C} {Q : tf_Q} {h : LH} (hn : 270 ≤ nc) {x0 : Nat} {x1 : Int32} (Kx0_0 : tf_K x0 = 0) (q : (x1 = (7 : Int32) → lx_X1_toldNode nc C Q 14 [.ref (x0), .int (x1)] [.int (h.1 x0 0)] h) ∧ (¬ x1 = (7 : Int32) → lx_X1_toldNode nc C Q 13 [.ref (x0), .int (x1)] [] h)) : lx_X1_toldNode nc C Q 0 [.ref (x0), .int (x1)] [] h := by
  obtain ⟨Bx0, ⟨Kx0_1, Kx0_2, Kx0_3, Kx0_4, Kx0_5, Kx0_6, Kx0_7, Kx0_8, Kx0_9, Kx0_10, Kx0_11, Kx0_12, Kx0_13, Kx0_14⟩, ⟨Nx0_1, Nx0_2, Nx0_3, Nx0_4, Nx0_5, Nx0_6, Nx0_7, Nx0_8, Nx0_9, Nx0_10, Nx0_12, Nx0_13, Nx0_14⟩⟩ := tn_net Kx0_0
  refine tf_LW_go ?_
  exact ⟨fun c1 => ⟨⟨Kx0_0, (show x0 < nc by omega)⟩, (q.1 c1)⟩, q.2⟩
theorem en_X1_toldNode {nc d : Nat} {Q : tf_Q} {h : LH} (hn : 270 ≤ nc) {x0 : Nat} {x1 : Int32} (Kx0_0 : tf_K x0 = 0) (q : lx_X1_toldNode nc (tf_Cd nc d) Q 0 [.ref (x0), .int (x1)] [] h) : tf_Cd nc (d + 1) 122 [.ref (x0), .int (x1)] h Q := by
  obtain ⟨Bx0, ⟨Kx0_1, Kx0_2, Kx0_3, Kx0_4, Kx0_5, Kx0_6, Kx0_7, Kx0_8, Kx0_9, Kx0_10, Kx0_11, Kx0_12, Kx0_13, Kx0_14⟩, ⟨Nx0_1, Nx0_2, Nx0_3, Nx0_4, Nx0_5, Nx0_6, Nx0_7, Nx0_8, Nx0_9, Nx0_10, Nx0_12, Nx0_13, Nx0_14⟩⟩ := tn_net Kx0_0
  exact ⟨⟨Nat.le_of_ble_eq_true rfl, Or.inr ⟨Kx0_0, (show x0 < nc by omega)⟩⟩, q⟩
set_option maxRecDepth 100000 in
theorem go_X1_toldNode_13 {nc : Nat} {C : tf_C} {Q : tf_Q} {h : LH} (hn : 270 ≤ nc) {x0 : Nat} {x1 : Int32} (Kx0_0 : tf_K x0 = 0) (q : lx_X1_toldNode nc C Q 14 [.ref (x0), .int (x1)] [.int (x1)] h) : lx_X1_toldNode nc C Q 13 [.ref (x0), .int (x1)] [] h := by
  obtain ⟨Bx0, ⟨Kx0_1, Kx0_2, Kx0_3, Kx0_4, Kx0_5, Kx0_6, Kx0_7, Kx0_8, Kx0_9, Kx0_10, Kx0_11, Kx0_12, Kx0_13, Kx0_14⟩, ⟨Nx0_1, Nx0_2, Nx0_3, Nx0_4, Nx0_5, Nx0_6, Nx0_7, Nx0_8, Nx0_9, Nx0_10, Nx0_12, Nx0_13, Nx0_14⟩⟩ := tn_net Kx0_0
  refine tf_LW_go ?_
  exact q
set_option maxRecDepth 100000 in
theorem go_X1_toldNode_14 {nc : Nat} {C : tf_C} {Q : tf_Q} {h : LH} (hn : 270 ≤ nc) {x0 : Nat} {x1 : Int32} {y0 : Int32} (Kx0_0 : tf_K x0 = 0) (q : Q (.int (y0)) h) : lx_X1_toldNode nc C Q 14 [.ref (x0), .int (x1)] [.int (y0)] h := by
  obtain ⟨Bx0, ⟨Kx0_1, Kx0_2, Kx0_3, Kx0_4, Kx0_5, Kx0_6, Kx0_7, Kx0_8, Kx0_9, Kx0_10, Kx0_11, Kx0_12, Kx0_13, Kx0_14⟩, ⟨Nx0_1, Nx0_2, Nx0_3, Nx0_4, Nx0_5, Nx0_6, Nx0_7, Nx0_8, Nx0_9, Nx0_10, Nx0_12, Nx0_13, Nx0_14⟩⟩ := tn_net Kx0_0
  refine tf_LW_go ?_
  exact ⟨(by first | trivial | rfl), q⟩
abbrev lx_X1_setRule (nc : Nat) (C : tf_C) (Q : tf_Q) : tf_X := tf_LW nc C (tf_F 0) (tf_M 0) (tf_I 0) (tf_Eh 123) 2 tb_X1_setRule Q
set_option maxRecDepth 100000 in
theorem go_X1_setRule_0 {nc : Nat} {C : tf_C} {Q : tf_Q} {h : LH} (hn : 270 ≤ nc) {x0 : Nat} {x1 : Int32} (Kx0_0 : tf_K x0 = 0) (q : C 221 [.int (x1)] h (fun r g => lx_X1_setRule nc C Q 4 [.ref (x0), .int (x1)] (r :: []) g)) : lx_X1_setRule nc C Q 0 [.ref (x0), .int (x1)] [] h := by
  obtain ⟨Bx0, ⟨Kx0_1, Kx0_2, Kx0_3, Kx0_4, Kx0_5, Kx0_6, Kx0_7, Kx0_8, Kx0_9, Kx0_10, Kx0_11, Kx0_12, Kx0_13, Kx0_14⟩, ⟨Nx0_1, Nx0_2, Nx0_3, Nx0_4, Nx0_5, Nx0_6, Nx0_7, Nx0_8, Nx0_9, Nx0_10, Nx0_12, Nx0_13, Nx0_14⟩⟩ := tn_net Kx0_0
  refine tf_LW_go ?_
  exact ⟨Nat.le_of_ble_eq_true rfl, Nat.le_of_ble_eq_true rfl, q⟩
theorem en_X1_setRule {nc d : Nat} {Q : tf_Q} {h : LH} (hn : 270 ≤ nc) {x0 : Nat} {x1 : Int32} (Kx0_0 : tf_K x0 = 0) (q : lx_X1_setRule nc (tf_Cd nc d) Q 0 [.ref (x0), .int (x1)] [] h) : tf_Cd nc (d + 1) 123 [.ref (x0), .int (x1)] h Q := by
  obtain ⟨Bx0, ⟨Kx0_1, Kx0_2, Kx0_3, Kx0_4, Kx0_5, Kx0_6, Kx0_7, Kx0_8, Kx0_9, Kx0_10, Kx0_11, Kx0_12, Kx0_13, Kx0_14⟩, ⟨Nx0_1, Nx0_2, Nx0_3, Nx0_4, Nx0_5, Nx0_6, Nx0_7, Nx0_8, Nx0_9, Nx0_10, Nx0_12, Nx0_13, Nx0_14⟩⟩ := tn_net Kx0_0
  exact ⟨⟨Nat.le_of_ble_eq_true rfl, Or.inr ⟨Kx0_0, (show x0 < nc by omega)⟩⟩, q⟩
set_option maxRecDepth 100000 in
theorem go_X1_setRule_4 {nc : Nat} {C : tf_C} {Q : tf_Q} {h : LH} (hn : 270 ≤ nc) {x0 : Nat} {x1 : Int32} {y0 : Int32} (Kx0_0 : tf_K x0 = 0) (q : (y0 = (0 : Int32) → Q (.int (0)) h) ∧ (¬ y0 = (0 : Int32) → lx_X1_setRule nc C Q 9 [.ref (x0), .int (x1)] [] h)) : lx_X1_setRule nc C Q 4 [.ref (x0), .int (x1)] [.int (y0)] h := by
  obtain ⟨Bx0, ⟨Kx0_1, Kx0_2, Kx0_3, Kx0_4, Kx0_5, Kx0_6, Kx0_7, Kx0_8, Kx0_9, Kx0_10, Kx0_11, Kx0_12, Kx0_13, Kx0_14⟩, ⟨Nx0_1, Nx0_2, Nx0_3, Nx0_4, Nx0_5, Nx0_6, Nx0_7, Nx0_8, Nx0_9, Nx0_10, Nx0_12, Nx0_13, Nx0_14⟩⟩ := tn_net Kx0_0
  refine tf_LW_go ?_
  exact ⟨fun c1 => ⟨(by first | rfl | trivial), (q.1 c1)⟩, q.2⟩
set_option maxRecDepth 100000 in
theorem go_X1_setRule_9 {nc : Nat} {C : tf_C} {Q : tf_Q} {h : LH} (hn : 270 ≤ nc) {x0 : Nat} {x1 : Int32} (Kx0_0 : tf_K x0 = 0) (q : Q (.int (1)) (tf_up h.1 x0 2 x1, h.2)) : lx_X1_setRule nc C Q 9 [.ref (x0), .int (x1)] [] h := by
  obtain ⟨Bx0, ⟨Kx0_1, Kx0_2, Kx0_3, Kx0_4, Kx0_5, Kx0_6, Kx0_7, Kx0_8, Kx0_9, Kx0_10, Kx0_11, Kx0_12, Kx0_13, Kx0_14⟩, ⟨Nx0_1, Nx0_2, Nx0_3, Nx0_4, Nx0_5, Nx0_6, Nx0_7, Nx0_8, Nx0_9, Nx0_10, Nx0_12, Nx0_13, Nx0_14⟩⟩ := tn_net Kx0_0
  refine tf_LW_go ?_
  exact ⟨⟨Kx0_0, (show x0 < nc by omega), (by first | rfl | trivial)⟩, ⟨(by first | rfl | trivial), q⟩⟩
abbrev lx_X1_moveSupply (nc : Nat) (C : tf_C) (Q : tf_Q) : tf_X := tf_LW nc C (tf_F 0) (tf_M 0) (tf_I 0) (tf_Eh 124) 2 tb_X1_moveSupply Q
set_option maxRecDepth 100000 in
theorem go_X1_moveSupply_0 {nc : Nat} {C : tf_C} {Q : tf_Q} {h : LH} (hn : 270 ≤ nc) {x0 : Nat} {x1 : Int32} {x2 : Int32} {x3 : Int32} (Kx0_0 : tf_K x0 = 0) (q : C 121 [.ref (x0), .int (x1), .int (x2)] h (fun r g => lx_X1_moveSupply nc C Q 6 [.ref (x0), .int (x1), .int (x2), .int (x3)] (r :: []) g)) : lx_X1_moveSupply nc C Q 0 [.ref (x0), .int (x1), .int (x2), .int (x3)] [] h := by
  obtain ⟨Bx0, ⟨Kx0_1, Kx0_2, Kx0_3, Kx0_4, Kx0_5, Kx0_6, Kx0_7, Kx0_8, Kx0_9, Kx0_10, Kx0_11, Kx0_12, Kx0_13, Kx0_14⟩, ⟨Nx0_1, Nx0_2, Nx0_3, Nx0_4, Nx0_5, Nx0_6, Nx0_7, Nx0_8, Nx0_9, Nx0_10, Nx0_12, Nx0_13, Nx0_14⟩⟩ := tn_net Kx0_0
  refine tf_LW_go ?_
  exact ⟨Nat.le_of_ble_eq_true rfl, Nat.le_of_ble_eq_true rfl, q⟩
theorem en_X1_moveSupply {nc d : Nat} {Q : tf_Q} {h : LH} (hn : 270 ≤ nc) {x0 : Nat} {x1 : Int32} {x2 : Int32} {x3 : Int32} (Kx0_0 : tf_K x0 = 0) (q : lx_X1_moveSupply nc (tf_Cd nc d) Q 0 [.ref (x0), .int (x1), .int (x2), .int (x3)] [] h) : tf_Cd nc (d + 1) 124 [.ref (x0), .int (x1), .int (x2), .int (x3)] h Q := by
  obtain ⟨Bx0, ⟨Kx0_1, Kx0_2, Kx0_3, Kx0_4, Kx0_5, Kx0_6, Kx0_7, Kx0_8, Kx0_9, Kx0_10, Kx0_11, Kx0_12, Kx0_13, Kx0_14⟩, ⟨Nx0_1, Nx0_2, Nx0_3, Nx0_4, Nx0_5, Nx0_6, Nx0_7, Nx0_8, Nx0_9, Nx0_10, Nx0_12, Nx0_13, Nx0_14⟩⟩ := tn_net Kx0_0
  exact ⟨⟨Nat.le_of_ble_eq_true rfl, Or.inr ⟨Kx0_0, (show x0 < nc by omega)⟩⟩, q⟩
set_option maxRecDepth 100000 in
theorem go_X1_moveSupply_6 {nc : Nat} {C : tf_C} {Q : tf_Q} {h : LH} (hn : 270 ≤ nc) {x0 : Nat} {x1 : Int32} {x2 : Int32} {x3 : Int32} {y0 : Int32} (Kx0_0 : tf_K x0 = 0) (q : (y0 = (0 : Int32) → lx_X1_moveSupply nc C Q 20 [.ref (x0), .int (x1), .int (x2), .int (x3)] [] h) ∧ (¬ y0 = (0 : Int32) → (x3 < (1 : Int32) → lx_X1_moveSupply nc C Q 20 [.ref (x0), .int (x1), .int (x2), .int (x3)] [] h) ∧ (¬ x3 < (1 : Int32) → (x3 ≤ (99 : Int32) → lx_X1_moveSupply nc C Q 22 [.ref (x0), .int (x1), .int (x2), .int (x3)] [] h) ∧ (¬ x3 ≤ (99 : Int32) → lx_X1_moveSupply nc C Q 20 [.ref (x0), .int (x1), .int (x2), .int (x3)] [] h)))) : lx_X1_moveSupply nc C Q 6 [.ref (x0), .int (x1), .int (x2), .int (x3)] [.int (y0)] h := by
  obtain ⟨Bx0, ⟨Kx0_1, Kx0_2, Kx0_3, Kx0_4, Kx0_5, Kx0_6, Kx0_7, Kx0_8, Kx0_9, Kx0_10, Kx0_11, Kx0_12, Kx0_13, Kx0_14⟩, ⟨Nx0_1, Nx0_2, Nx0_3, Nx0_4, Nx0_5, Nx0_6, Nx0_7, Nx0_8, Nx0_9, Nx0_10, Nx0_12, Nx0_13, Nx0_14⟩⟩ := tn_net Kx0_0
  refine tf_LW_go ?_
  exact ⟨q.1, fun c3 => ⟨(q.2 c3).1, fun c2 => ⟨((q.2 c3).2 c2).1, fun c1 => (((q.2 c3).2 c2).2 c1)⟩⟩⟩
set_option maxRecDepth 100000 in
theorem go_X1_moveSupply_20 {nc : Nat} {C : tf_C} {Q : tf_Q} {h : LH} (hn : 270 ≤ nc) {x0 : Nat} {x1 : Int32} {x2 : Int32} {x3 : Int32} (Kx0_0 : tf_K x0 = 0) (q : Q (.int (0)) h) : lx_X1_moveSupply nc C Q 20 [.ref (x0), .int (x1), .int (x2), .int (x3)] [] h := by
  obtain ⟨Bx0, ⟨Kx0_1, Kx0_2, Kx0_3, Kx0_4, Kx0_5, Kx0_6, Kx0_7, Kx0_8, Kx0_9, Kx0_10, Kx0_11, Kx0_12, Kx0_13, Kx0_14⟩, ⟨Nx0_1, Nx0_2, Nx0_3, Nx0_4, Nx0_5, Nx0_6, Nx0_7, Nx0_8, Nx0_9, Nx0_10, Nx0_12, Nx0_13, Nx0_14⟩⟩ := tn_net Kx0_0
  refine tf_LW_go ?_
  exact ⟨(by first | rfl | trivial), q⟩
set_option maxRecDepth 100000 in
theorem go_X1_moveSupply_22 {nc : Nat} {C : tf_C} {Q : tf_Q} {h : LH} (hn : 270 ≤ nc) {x0 : Nat} {x1 : Int32} {x2 : Int32} {x3 : Int32} (Kx0_0 : tf_K x0 = 0) (q : (vp_in x1 7) ∧ ((99 : Int32) < ((h.1 (x0 + 1) (x1 : Int32).toNatClampNeg) + x3) → lx_X1_moveSupply nc C Q 48 [.ref (x0), .int (x1), .int (x2), .int (x3)] [] h) ∧ (¬ (99 : Int32) < ((h.1 (x0 + 1) (x1 : Int32).toNatClampNeg) + x3) → (vp_in x2 7) ∧ (((-99) : Int32) ≤ ((h.1 (x0 + 1) (x2 : Int32).toNatClampNeg) - x3) → lx_X1_moveSupply nc C Q 50 [.ref (x0), .int (x1), .int (x2), .int (x3)] [] h) ∧ (¬ ((-99) : Int32) ≤ ((h.1 (x0 + 1) (x2 : Int32).toNatClampNeg) - x3) → lx_X1_moveSupply nc C Q 48 [.ref (x0), .int (x1), .int (x2), .int (x3)] [] h))) : lx_X1_moveSupply nc C Q 22 [.ref (x0), .int (x1), .int (x2), .int (x3)] [] h := by
  obtain ⟨Bx0, ⟨Kx0_1, Kx0_2, Kx0_3, Kx0_4, Kx0_5, Kx0_6, Kx0_7, Kx0_8, Kx0_9, Kx0_10, Kx0_11, Kx0_12, Kx0_13, Kx0_14⟩, ⟨Nx0_1, Nx0_2, Nx0_3, Nx0_4, Nx0_5, Nx0_6, Nx0_7, Nx0_8, Nx0_9, Nx0_10, Nx0_12, Nx0_13, Nx0_14⟩⟩ := tn_net Kx0_0
  refine tf_LW_go ?_
  show (tf_K x0 = 0 ∧ x0 < nc) ∧ (tf_K (tf_R x0 3) = 8 ∧ (tf_R x0 3) < nc ∧ vp_in x1 (tf_N (tf_R x0 3))) ∧ ((99 : Int32) < ((h.1 (tf_R x0 3) (x1 : Int32).toNatClampNeg) + x3) → lx_X1_moveSupply nc C Q 48 [.ref (x0), .int (x1), .int (x2), .int (x3)] [] h) ∧ (¬ (99 : Int32) < ((h.1 (tf_R x0 3) (x1 : Int32).toNatClampNeg) + x3) → (tf_K x0 = 0 ∧ x0 < nc) ∧ (tf_K (tf_R x0 3) = 8 ∧ (tf_R x0 3) < nc ∧ vp_in x2 (tf_N (tf_R x0 3))) ∧ (((-99) : Int32) ≤ ((h.1 (tf_R x0 3) (x2 : Int32).toNatClampNeg) - x3) → lx_X1_moveSupply nc C Q 50 [.ref (x0), .int (x1), .int (x2), .int (x3)] [] h) ∧ (¬ ((-99) : Int32) ≤ ((h.1 (tf_R x0 3) (x2 : Int32).toNatClampNeg) - x3) → lx_X1_moveSupply nc C Q 48 [.ref (x0), .int (x1), .int (x2), .int (x3)] [] h))
  try simp only [(show tf_R x0 3 = x0 + 1 by rw [tn_R0 Kx0_0]; try omega), Nx0_1]
  exact ⟨⟨Kx0_0, (show x0 < nc by omega)⟩, ⟨⟨Kx0_1, (show x0 + 1 < nc by omega), q.1⟩, ⟨q.2.1, fun c2 => ⟨⟨Kx0_0, (show x0 < nc by omega)⟩, ⟨⟨Kx0_1, (show x0 + 1 < nc by omega), (q.2.2 c2).1⟩, ⟨(q.2.2 c2).2.1, fun c1 => ((q.2.2 c2).2.2 c1)⟩⟩⟩⟩⟩⟩
set_option maxRecDepth 100000 in
theorem go_X1_moveSupply_48 {nc : Nat} {C : tf_C} {Q : tf_Q} {h : LH} (hn : 270 ≤ nc) {x0 : Nat} {x1 : Int32} {x2 : Int32} {x3 : Int32} (Kx0_0 : tf_K x0 = 0) (q : Q (.int (0)) h) : lx_X1_moveSupply nc C Q 48 [.ref (x0), .int (x1), .int (x2), .int (x3)] [] h := by
  obtain ⟨Bx0, ⟨Kx0_1, Kx0_2, Kx0_3, Kx0_4, Kx0_5, Kx0_6, Kx0_7, Kx0_8, Kx0_9, Kx0_10, Kx0_11, Kx0_12, Kx0_13, Kx0_14⟩, ⟨Nx0_1, Nx0_2, Nx0_3, Nx0_4, Nx0_5, Nx0_6, Nx0_7, Nx0_8, Nx0_9, Nx0_10, Nx0_12, Nx0_13, Nx0_14⟩⟩ := tn_net Kx0_0
  refine tf_LW_go ?_
  exact ⟨(by first | rfl | trivial), q⟩
set_option maxRecDepth 100000 in
theorem go_X1_moveSupply_50 {nc : Nat} {C : tf_C} {Q : tf_Q} {h : LH} (hn : 270 ≤ nc) {x0 : Nat} {x1 : Int32} {x2 : Int32} {x3 : Int32} (Kx0_0 : tf_K x0 = 0) (q : (vp_in x1 7) ∧ (vp_in x1 7) ∧ (vp_in x2 7) ∧ (vp_in x2 7) ∧ C 128 [.ref (x0), .int (1)] (tf_up (tf_up h.1 (x0 + 1) (x1 : Int32).toNatClampNeg ((h.1 (x0 + 1) (x1 : Int32).toNatClampNeg) + x3)) (x0 + 1) (x2 : Int32).toNatClampNeg (((tf_up h.1 (x0 + 1) (x1 : Int32).toNatClampNeg ((h.1 (x0 + 1) (x1 : Int32).toNatClampNeg) + x3)) (x0 + 1) (x2 : Int32).toNatClampNeg) - x3), h.2) (fun r g => lx_X1_moveSupply nc C Q 75 [.ref (x0), .int (x1), .int (x2), .int (x3)] [] g)) : lx_X1_moveSupply nc C Q 50 [.ref (x0), .int (x1), .int (x2), .int (x3)] [] h := by
  obtain ⟨Bx0, ⟨Kx0_1, Kx0_2, Kx0_3, Kx0_4, Kx0_5, Kx0_6, Kx0_7, Kx0_8, Kx0_9, Kx0_10, Kx0_11, Kx0_12, Kx0_13, Kx0_14⟩, ⟨Nx0_1, Nx0_2, Nx0_3, Nx0_4, Nx0_5, Nx0_6, Nx0_7, Nx0_8, Nx0_9, Nx0_10, Nx0_12, Nx0_13, Nx0_14⟩⟩ := tn_net Kx0_0
  refine tf_LW_go ?_
  show (tf_K x0 = 0 ∧ x0 < nc) ∧ (tf_K (tf_R x0 3) = 8 ∧ (tf_R x0 3) < nc ∧ vp_in x1 (tf_N (tf_R x0 3))) ∧ (tf_K (tf_R x0 3) = 8 ∧ (tf_R x0 3) < nc ∧ vp_in x1 (tf_N (tf_R x0 3))) ∧ (tf_K x0 = 0 ∧ x0 < nc) ∧ (tf_K (tf_R x0 3) = 8 ∧ (tf_R x0 3) < nc ∧ vp_in x2 (tf_N (tf_R x0 3))) ∧ (tf_K (tf_R x0 3) = 8 ∧ (tf_R x0 3) < nc ∧ vp_in x2 (tf_N (tf_R x0 3))) ∧ 2 ≤ 2 ∧ 0 ≤ 8 ∧ C 128 [.ref (x0), .int (1)] (tf_up (tf_up h.1 (tf_R x0 3) (x1 : Int32).toNatClampNeg ((h.1 (tf_R x0 3) (x1 : Int32).toNatClampNeg) + x3)) (tf_R x0 3) (x2 : Int32).toNatClampNeg (((tf_up h.1 (tf_R x0 3) (x1 : Int32).toNatClampNeg ((h.1 (tf_R x0 3) (x1 : Int32).toNatClampNeg) + x3)) (tf_R x0 3) (x2 : Int32).toNatClampNeg) - x3), h.2) (fun r g => lx_X1_moveSupply nc C Q 75 [.ref (x0), .int (x1), .int (x2), .int (x3)] [] g)
  try simp only [(show tf_R x0 3 = x0 + 1 by rw [tn_R0 Kx0_0]; try omega), Nx0_1]
  exact ⟨⟨Kx0_0, (show x0 < nc by omega)⟩, ⟨⟨Kx0_1, (show x0 + 1 < nc by omega), q.1⟩, ⟨⟨Kx0_1, (show x0 + 1 < nc by omega), q.2.1⟩, ⟨⟨Kx0_0, (show x0 < nc by omega)⟩, ⟨⟨Kx0_1, (show x0 + 1 < nc by omega), q.2.2.1⟩, ⟨⟨Kx0_1, (show x0 + 1 < nc by omega), q.2.2.2.1⟩, ⟨Nat.le_of_ble_eq_true rfl, Nat.le_of_ble_eq_true rfl, q.2.2.2.2⟩⟩⟩⟩⟩⟩⟩
set_option maxRecDepth 100000 in
theorem go_X1_moveSupply_75 {nc : Nat} {C : tf_C} {Q : tf_Q} {h : LH} (hn : 270 ≤ nc) {x0 : Nat} {x1 : Int32} {x2 : Int32} {x3 : Int32} (Kx0_0 : tf_K x0 = 0) (q : Q (.int (1)) h) : lx_X1_moveSupply nc C Q 75 [.ref (x0), .int (x1), .int (x2), .int (x3)] [] h := by
  obtain ⟨Bx0, ⟨Kx0_1, Kx0_2, Kx0_3, Kx0_4, Kx0_5, Kx0_6, Kx0_7, Kx0_8, Kx0_9, Kx0_10, Kx0_11, Kx0_12, Kx0_13, Kx0_14⟩, ⟨Nx0_1, Nx0_2, Nx0_3, Nx0_4, Nx0_5, Nx0_6, Nx0_7, Nx0_8, Nx0_9, Nx0_10, Nx0_12, Nx0_13, Nx0_14⟩⟩ := tn_net Kx0_0
  refine tf_LW_go ?_
  exact ⟨(by first | rfl | trivial), q⟩
abbrev lx_X1_setOpen (nc : Nat) (C : tf_C) (Q : tf_Q) : tf_X := tf_LW nc C (tf_F 0) (tf_M 0) (tf_I 0) (tf_Eh 125) 2 tb_X1_setOpen Q
set_option maxRecDepth 100000 in
theorem go_X1_setOpen_0 {nc : Nat} {C : tf_C} {Q : tf_Q} {h : LH} (hn : 270 ≤ nc) {x0 : Nat} {x1 : Int32} {x2 : Int32} (Kx0_0 : tf_K x0 = 0) (q : C 119 [.ref (x0), .int (x1)] h (fun r g => lx_X1_setOpen nc C Q 5 [.ref (x0), .int (x1), .int (x2)] (r :: []) g)) : lx_X1_setOpen nc C Q 0 [.ref (x0), .int (x1), .int (x2)] [] h := by
  obtain ⟨Bx0, ⟨Kx0_1, Kx0_2, Kx0_3, Kx0_4, Kx0_5, Kx0_6, Kx0_7, Kx0_8, Kx0_9, Kx0_10, Kx0_11, Kx0_12, Kx0_13, Kx0_14⟩, ⟨Nx0_1, Nx0_2, Nx0_3, Nx0_4, Nx0_5, Nx0_6, Nx0_7, Nx0_8, Nx0_9, Nx0_10, Nx0_12, Nx0_13, Nx0_14⟩⟩ := tn_net Kx0_0
  refine tf_LW_go ?_
  exact ⟨Nat.le_of_ble_eq_true rfl, Nat.le_of_ble_eq_true rfl, q⟩
theorem en_X1_setOpen {nc d : Nat} {Q : tf_Q} {h : LH} (hn : 270 ≤ nc) {x0 : Nat} {x1 : Int32} {x2 : Int32} (Kx0_0 : tf_K x0 = 0) (q : lx_X1_setOpen nc (tf_Cd nc d) Q 0 [.ref (x0), .int (x1), .int (x2)] [] h) : tf_Cd nc (d + 1) 125 [.ref (x0), .int (x1), .int (x2)] h Q := by
  obtain ⟨Bx0, ⟨Kx0_1, Kx0_2, Kx0_3, Kx0_4, Kx0_5, Kx0_6, Kx0_7, Kx0_8, Kx0_9, Kx0_10, Kx0_11, Kx0_12, Kx0_13, Kx0_14⟩, ⟨Nx0_1, Nx0_2, Nx0_3, Nx0_4, Nx0_5, Nx0_6, Nx0_7, Nx0_8, Nx0_9, Nx0_10, Nx0_12, Nx0_13, Nx0_14⟩⟩ := tn_net Kx0_0
  exact ⟨⟨Nat.le_of_ble_eq_true rfl, Or.inr ⟨Kx0_0, (show x0 < nc by omega)⟩⟩, q⟩
set_option maxRecDepth 100000 in
theorem go_X1_setOpen_5 {nc : Nat} {C : tf_C} {Q : tf_Q} {h : LH} (hn : 270 ≤ nc) {x0 : Nat} {x1 : Int32} {x2 : Int32} {y0 : Int32} (Kx0_0 : tf_K x0 = 0) (q : (y0 = (0 : Int32) → lx_X1_setOpen nc C Q 27 [.ref (x0), .int (x1), .int (x2)] [] h) ∧ (¬ y0 = (0 : Int32) → (vp_in x1 21) ∧ ((h.1 (x0 + 7) (x1 : Int32).toNatClampNeg) = (3 : Int32) → lx_X1_setOpen nc C Q 22 [.ref (x0), .int (x1), .int (x2)] [] h) ∧ (¬ (h.1 (x0 + 7) (x1 : Int32).toNatClampNeg) = (3 : Int32) → lx_X1_setOpen nc C Q 23 [.ref (x0), .int (x1), .int (x2)] [.int (1)] h))) : lx_X1_setOpen nc C Q 5 [.ref (x0), .int (x1), .int (x2)] [.int (y0)] h := by
  obtain ⟨Bx0, ⟨Kx0_1, Kx0_2, Kx0_3, Kx0_4, Kx0_5, Kx0_6, Kx0_7, Kx0_8, Kx0_9, Kx0_10, Kx0_11, Kx0_12, Kx0_13, Kx0_14⟩, ⟨Nx0_1, Nx0_2, Nx0_3, Nx0_4, Nx0_5, Nx0_6, Nx0_7, Nx0_8, Nx0_9, Nx0_10, Nx0_12, Nx0_13, Nx0_14⟩⟩ := tn_net Kx0_0
  refine tf_LW_go ?_
  show (y0 = (0 : Int32) → lx_X1_setOpen nc C Q 27 [.ref (x0), .int (x1), .int (x2)] [] h) ∧ (¬ y0 = (0 : Int32) → (tf_K x0 = 0 ∧ x0 < nc) ∧ (tf_K (tf_R x0 9) = 8 ∧ (tf_R x0 9) < nc ∧ vp_in x1 (tf_N (tf_R x0 9))) ∧ ((h.1 (tf_R x0 9) (x1 : Int32).toNatClampNeg) = (3 : Int32) → lx_X1_setOpen nc C Q 22 [.ref (x0), .int (x1), .int (x2)] [] h) ∧ (¬ (h.1 (tf_R x0 9) (x1 : Int32).toNatClampNeg) = (3 : Int32) → lx_X1_setOpen nc C Q 23 [.ref (x0), .int (x1), .int (x2)] [.int (1)] h))
  try simp only [(show tf_R x0 9 = x0 + 7 by rw [tn_R0 Kx0_0]; try omega), Nx0_7]
  exact ⟨q.1, fun c2 => ⟨⟨Kx0_0, (show x0 < nc by omega)⟩, ⟨⟨Kx0_7, (show x0 + 7 < nc by omega), (q.2 c2).1⟩, ⟨(q.2 c2).2.1, fun c1 => ((q.2 c2).2.2 c1)⟩⟩⟩⟩
set_option maxRecDepth 100000 in
theorem go_X1_setOpen_22 {nc : Nat} {C : tf_C} {Q : tf_Q} {h : LH} (hn : 270 ≤ nc) {x0 : Nat} {x1 : Int32} {x2 : Int32} (Kx0_0 : tf_K x0 = 0) (q : lx_X1_setOpen nc C Q 23 [.ref (x0), .int (x1), .int (x2)] [.int (0)] h) : lx_X1_setOpen nc C Q 22 [.ref (x0), .int (x1), .int (x2)] [] h := by
  obtain ⟨Bx0, ⟨Kx0_1, Kx0_2, Kx0_3, Kx0_4, Kx0_5, Kx0_6, Kx0_7, Kx0_8, Kx0_9, Kx0_10, Kx0_11, Kx0_12, Kx0_13, Kx0_14⟩, ⟨Nx0_1, Nx0_2, Nx0_3, Nx0_4, Nx0_5, Nx0_6, Nx0_7, Nx0_8, Nx0_9, Nx0_10, Nx0_12, Nx0_13, Nx0_14⟩⟩ := tn_net Kx0_0
  refine tf_LW_go ?_
  exact q
set_option maxRecDepth 100000 in
theorem go_X1_setOpen_23 {nc : Nat} {C : tf_C} {Q : tf_Q} {h : LH} (hn : 270 ≤ nc) {x0 : Nat} {x1 : Int32} {x2 : Int32} {y0 : Int32} (Kx0_0 : tf_K x0 = 0) (q : (y0 = x2 → lx_X1_setOpen nc C Q 27 [.ref (x0), .int (x1), .int (x2)] [] h) ∧ (¬ y0 = x2 → lx_X1_setOpen nc C Q 29 [.ref (x0), .int (x1), .int (x2)] [] h)) : lx_X1_setOpen nc C Q 23 [.ref (x0), .int (x1), .int (x2)] [.int (y0)] h := by
  obtain ⟨Bx0, ⟨Kx0_1, Kx0_2, Kx0_3, Kx0_4, Kx0_5, Kx0_6, Kx0_7, Kx0_8, Kx0_9, Kx0_10, Kx0_11, Kx0_12, Kx0_13, Kx0_14⟩, ⟨Nx0_1, Nx0_2, Nx0_3, Nx0_4, Nx0_5, Nx0_6, Nx0_7, Nx0_8, Nx0_9, Nx0_10, Nx0_12, Nx0_13, Nx0_14⟩⟩ := tn_net Kx0_0
  refine tf_LW_go ?_
  exact ⟨fun c1 => (q.1 c1), q.2⟩
set_option maxRecDepth 100000 in
theorem go_X1_setOpen_27 {nc : Nat} {C : tf_C} {Q : tf_Q} {h : LH} (hn : 270 ≤ nc) {x0 : Nat} {x1 : Int32} {x2 : Int32} (Kx0_0 : tf_K x0 = 0) (q : Q (.int (0)) h) : lx_X1_setOpen nc C Q 27 [.ref (x0), .int (x1), .int (x2)] [] h := by
  obtain ⟨Bx0, ⟨Kx0_1, Kx0_2, Kx0_3, Kx0_4, Kx0_5, Kx0_6, Kx0_7, Kx0_8, Kx0_9, Kx0_10, Kx0_11, Kx0_12, Kx0_13, Kx0_14⟩, ⟨Nx0_1, Nx0_2, Nx0_3, Nx0_4, Nx0_5, Nx0_6, Nx0_7, Nx0_8, Nx0_9, Nx0_10, Nx0_12, Nx0_13, Nx0_14⟩⟩ := tn_net Kx0_0
  refine tf_LW_go ?_
  exact ⟨(by first | rfl | trivial), q⟩
set_option maxRecDepth 100000 in
theorem go_X1_setOpen_29 {nc : Nat} {C : tf_C} {Q : tf_Q} {h : LH} (hn : 270 ≤ nc) {x0 : Nat} {x1 : Int32} {x2 : Int32} (Kx0_0 : tf_K x0 = 0) (q : (x2 = (0 : Int32) → lx_X1_setOpen nc C Q 42 [.ref (x0), .int (x1), .int (x2)] [.int (x1), .ref (x0 + 7)] h) ∧ (¬ x2 = (0 : Int32) → lx_X1_setOpen nc C Q 43 [.ref (x0), .int (x1), .int (x2)] [.int (0), .int (x1), .ref (x0 + 7)] h)) : lx_X1_setOpen nc C Q 29 [.ref (x0), .int (x1), .int (x2)] [] h := by
  obtain ⟨Bx0, ⟨Kx0_1, Kx0_2, Kx0_3, Kx0_4, Kx0_5, Kx0_6, Kx0_7, Kx0_8, Kx0_9, Kx0_10, Kx0_11, Kx0_12, Kx0_13, Kx0_14⟩, ⟨Nx0_1, Nx0_2, Nx0_3, Nx0_4, Nx0_5, Nx0_6, Nx0_7, Nx0_8, Nx0_9, Nx0_10, Nx0_12, Nx0_13, Nx0_14⟩⟩ := tn_net Kx0_0
  refine tf_LW_go ?_
  show (tf_K x0 = 0 ∧ x0 < nc) ∧ (x2 = (0 : Int32) → lx_X1_setOpen nc C Q 42 [.ref (x0), .int (x1), .int (x2)] [.int (x1), .ref (tf_R x0 9)] h) ∧ (¬ x2 = (0 : Int32) → lx_X1_setOpen nc C Q 43 [.ref (x0), .int (x1), .int (x2)] [.int (0), .int (x1), .ref (tf_R x0 9)] h)
  try simp only [(show tf_R x0 9 = x0 + 7 by rw [tn_R0 Kx0_0]; try omega), Nx0_7]
  exact ⟨⟨Kx0_0, (show x0 < nc by omega)⟩, ⟨q.1, fun c1 => (q.2 c1)⟩⟩
set_option maxRecDepth 100000 in
theorem go_X1_setOpen_42 {nc : Nat} {C : tf_C} {Q : tf_Q} {h : LH} (hn : 270 ≤ nc) {x0 : Nat} {x1 : Int32} {x2 : Int32} {y0 ny0 : Nat} {y1 : Int32} (Kx0_0 : tf_K x0 = 0) (Ky0_0 : tf_K y0 = 8) (Ny0_0 : tf_N y0 = ny0) (By0 : y0 < nc) (q : lx_X1_setOpen nc C Q 43 [.ref (x0), .int (x1), .int (x2)] [.int (3), .int (y1), .ref (y0)] h) : lx_X1_setOpen nc C Q 42 [.ref (x0), .int (x1), .int (x2)] [.int (y1), .ref (y0)] h := by
  obtain ⟨Bx0, ⟨Kx0_1, Kx0_2, Kx0_3, Kx0_4, Kx0_5, Kx0_6, Kx0_7, Kx0_8, Kx0_9, Kx0_10, Kx0_11, Kx0_12, Kx0_13, Kx0_14⟩, ⟨Nx0_1, Nx0_2, Nx0_3, Nx0_4, Nx0_5, Nx0_6, Nx0_7, Nx0_8, Nx0_9, Nx0_10, Nx0_12, Nx0_13, Nx0_14⟩⟩ := tn_net Kx0_0
  refine tf_LW_go ?_
  show lx_X1_setOpen nc C Q 43 [.ref (x0), .int (x1), .int (x2)] [.int (3), .int (y1), .ref (y0)] h
  try simp only [Ny0_0]
  exact q
set_option maxRecDepth 100000 in
theorem go_X1_setOpen_43 {nc : Nat} {C : tf_C} {Q : tf_Q} {h : LH} (hn : 270 ≤ nc) {x0 : Nat} {x1 : Int32} {x2 : Int32} {y0 ny0 : Nat} {y1 : Int32} {y2 : Int32} (Kx0_0 : tf_K x0 = 0) (Ky0_0 : tf_K y0 = 8) (Ny0_0 : tf_N y0 = ny0) (By0 : y0 < nc) (q : (vp_in y1 ny0) ∧ C 128 [.ref (x0), .int (1)] (tf_up h.1 y0 (y1 : Int32).toNatClampNeg y2, h.2) (fun r g => lx_X1_setOpen nc C Q 49 [.ref (x0), .int (x1), .int (x2)] [] g)) : lx_X1_setOpen nc C Q 43 [.ref (x0), .int (x1), .int (x2)] [.int (y2), .int (y1), .ref (y0)] h := by
  obtain ⟨Bx0, ⟨Kx0_1, Kx0_2, Kx0_3, Kx0_4, Kx0_5, Kx0_6, Kx0_7, Kx0_8, Kx0_9, Kx0_10, Kx0_11, Kx0_12, Kx0_13, Kx0_14⟩, ⟨Nx0_1, Nx0_2, Nx0_3, Nx0_4, Nx0_5, Nx0_6, Nx0_7, Nx0_8, Nx0_9, Nx0_10, Nx0_12, Nx0_13, Nx0_14⟩⟩ := tn_net Kx0_0
  refine tf_LW_go ?_
  show (tf_K y0 = 8 ∧ y0 < nc ∧ vp_in y1 (tf_N y0)) ∧ 2 ≤ 2 ∧ 0 ≤ 8 ∧ C 128 [.ref (x0), .int (1)] (tf_up h.1 y0 (y1 : Int32).toNatClampNeg y2, h.2) (fun r g => lx_X1_setOpen nc C Q 49 [.ref (x0), .int (x1), .int (x2)] [] g)
  try simp only [Ny0_0]
  exact ⟨⟨Ky0_0, (show y0 < nc by omega), q.1⟩, ⟨Nat.le_of_ble_eq_true rfl, Nat.le_of_ble_eq_true rfl, q.2⟩⟩
set_option maxRecDepth 100000 in
theorem go_X1_setOpen_49 {nc : Nat} {C : tf_C} {Q : tf_Q} {h : LH} (hn : 270 ≤ nc) {x0 : Nat} {x1 : Int32} {x2 : Int32} (Kx0_0 : tf_K x0 = 0) (q : Q (.int (1)) h) : lx_X1_setOpen nc C Q 49 [.ref (x0), .int (x1), .int (x2)] [] h := by
  obtain ⟨Bx0, ⟨Kx0_1, Kx0_2, Kx0_3, Kx0_4, Kx0_5, Kx0_6, Kx0_7, Kx0_8, Kx0_9, Kx0_10, Kx0_11, Kx0_12, Kx0_13, Kx0_14⟩, ⟨Nx0_1, Nx0_2, Nx0_3, Nx0_4, Nx0_5, Nx0_6, Nx0_7, Nx0_8, Nx0_9, Nx0_10, Nx0_12, Nx0_13, Nx0_14⟩⟩ := tn_net Kx0_0
  refine tf_LW_go ?_
  exact ⟨(by first | rfl | trivial), q⟩
abbrev lx_X1_setBound (nc : Nat) (C : tf_C) (Q : tf_Q) : tf_X := tf_LW nc C (tf_F 0) (tf_M 0) (tf_I 0) (tf_Eh 126) 2 tb_X1_setBound Q
set_option maxRecDepth 100000 in
theorem go_X1_setBound_0 {nc : Nat} {C : tf_C} {Q : tf_Q} {h : LH} (hn : 270 ≤ nc) {x0 : Nat} {x1 : Int32} {x2 : Int32} (Kx0_0 : tf_K x0 = 0) (q : C 119 [.ref (x0), .int (x1)] h (fun r g => lx_X1_setBound nc C Q 5 [.ref (x0), .int (x1), .int (x2)] (r :: []) g)) : lx_X1_setBound nc C Q 0 [.ref (x0), .int (x1), .int (x2)] [] h := by
  obtain ⟨Bx0, ⟨Kx0_1, Kx0_2, Kx0_3, Kx0_4, Kx0_5, Kx0_6, Kx0_7, Kx0_8, Kx0_9, Kx0_10, Kx0_11, Kx0_12, Kx0_13, Kx0_14⟩, ⟨Nx0_1, Nx0_2, Nx0_3, Nx0_4, Nx0_5, Nx0_6, Nx0_7, Nx0_8, Nx0_9, Nx0_10, Nx0_12, Nx0_13, Nx0_14⟩⟩ := tn_net Kx0_0
  refine tf_LW_go ?_
  exact ⟨Nat.le_of_ble_eq_true rfl, Nat.le_of_ble_eq_true rfl, q⟩
theorem en_X1_setBound {nc d : Nat} {Q : tf_Q} {h : LH} (hn : 270 ≤ nc) {x0 : Nat} {x1 : Int32} {x2 : Int32} (Kx0_0 : tf_K x0 = 0) (q : lx_X1_setBound nc (tf_Cd nc d) Q 0 [.ref (x0), .int (x1), .int (x2)] [] h) : tf_Cd nc (d + 1) 126 [.ref (x0), .int (x1), .int (x2)] h Q := by
  obtain ⟨Bx0, ⟨Kx0_1, Kx0_2, Kx0_3, Kx0_4, Kx0_5, Kx0_6, Kx0_7, Kx0_8, Kx0_9, Kx0_10, Kx0_11, Kx0_12, Kx0_13, Kx0_14⟩, ⟨Nx0_1, Nx0_2, Nx0_3, Nx0_4, Nx0_5, Nx0_6, Nx0_7, Nx0_8, Nx0_9, Nx0_10, Nx0_12, Nx0_13, Nx0_14⟩⟩ := tn_net Kx0_0
  exact ⟨⟨Nat.le_of_ble_eq_true rfl, Or.inr ⟨Kx0_0, (show x0 < nc by omega)⟩⟩, q⟩
set_option maxRecDepth 100000 in
theorem go_X1_setBound_5 {nc : Nat} {C : tf_C} {Q : tf_Q} {h : LH} (hn : 270 ≤ nc) {x0 : Nat} {x1 : Int32} {x2 : Int32} {y0 : Int32} (Kx0_0 : tf_K x0 = 0) (q : (y0 = (0 : Int32) → lx_X1_setBound nc C Q 28 [.ref (x0), .int (x1), .int (x2)] [] h) ∧ (¬ y0 = (0 : Int32) → (x2 < (0 : Int32) → lx_X1_setBound nc C Q 28 [.ref (x0), .int (x1), .int (x2)] [] h) ∧ (¬ x2 < (0 : Int32) → ((99 : Int32) < x2 → lx_X1_setBound nc C Q 28 [.ref (x0), .int (x1), .int (x2)] [] h) ∧ (¬ (99 : Int32) < x2 → (vp_in x1 21) ∧ (x2 = (h.1 (x0 + 4) (x1 : Int32).toNatClampNeg) → lx_X1_setBound nc C Q 28 [.ref (x0), .int (x1), .int (x2)] [] h) ∧ (¬ x2 = (h.1 (x0 + 4) (x1 : Int32).toNatClampNeg) → lx_X1_setBound nc C Q 30 [.ref (x0), .int (x1), .int (x2)] [] h))))) : lx_X1_setBound nc C Q 5 [.ref (x0), .int (x1), .int (x2)] [.int (y0)] h := by
  obtain ⟨Bx0, ⟨Kx0_1, Kx0_2, Kx0_3, Kx0_4, Kx0_5, Kx0_6, Kx0_7, Kx0_8, Kx0_9, Kx0_10, Kx0_11, Kx0_12, Kx0_13, Kx0_14⟩, ⟨Nx0_1, Nx0_2, Nx0_3, Nx0_4, Nx0_5, Nx0_6, Nx0_7, Nx0_8, Nx0_9, Nx0_10, Nx0_12, Nx0_13, Nx0_14⟩⟩ := tn_net Kx0_0
  refine tf_LW_go ?_
  show (y0 = (0 : Int32) → lx_X1_setBound nc C Q 28 [.ref (x0), .int (x1), .int (x2)] [] h) ∧ (¬ y0 = (0 : Int32) → (x2 < (0 : Int32) → lx_X1_setBound nc C Q 28 [.ref (x0), .int (x1), .int (x2)] [] h) ∧ (¬ x2 < (0 : Int32) → ((99 : Int32) < x2 → lx_X1_setBound nc C Q 28 [.ref (x0), .int (x1), .int (x2)] [] h) ∧ (¬ (99 : Int32) < x2 → (tf_K x0 = 0 ∧ x0 < nc) ∧ (tf_K (tf_R x0 6) = 8 ∧ (tf_R x0 6) < nc ∧ vp_in x1 (tf_N (tf_R x0 6))) ∧ (x2 = (h.1 (tf_R x0 6) (x1 : Int32).toNatClampNeg) → lx_X1_setBound nc C Q 28 [.ref (x0), .int (x1), .int (x2)] [] h) ∧ (¬ x2 = (h.1 (tf_R x0 6) (x1 : Int32).toNatClampNeg) → lx_X1_setBound nc C Q 30 [.ref (x0), .int (x1), .int (x2)] [] h))))
  try simp only [(show tf_R x0 6 = x0 + 4 by rw [tn_R0 Kx0_0]; try omega), Nx0_4]
  exact ⟨q.1, fun c4 => ⟨(q.2 c4).1, fun c3 => ⟨((q.2 c4).2 c3).1, fun c2 => ⟨⟨Kx0_0, (show x0 < nc by omega)⟩, ⟨⟨Kx0_4, (show x0 + 4 < nc by omega), (((q.2 c4).2 c3).2 c2).1⟩, ⟨fun c1 => ((((q.2 c4).2 c3).2 c2).2.1 c1), (((q.2 c4).2 c3).2 c2).2.2⟩⟩⟩⟩⟩⟩
set_option maxRecDepth 100000 in
theorem go_X1_setBound_28 {nc : Nat} {C : tf_C} {Q : tf_Q} {h : LH} (hn : 270 ≤ nc) {x0 : Nat} {x1 : Int32} {x2 : Int32} (Kx0_0 : tf_K x0 = 0) (q : Q (.int (0)) h) : lx_X1_setBound nc C Q 28 [.ref (x0), .int (x1), .int (x2)] [] h := by
  obtain ⟨Bx0, ⟨Kx0_1, Kx0_2, Kx0_3, Kx0_4, Kx0_5, Kx0_6, Kx0_7, Kx0_8, Kx0_9, Kx0_10, Kx0_11, Kx0_12, Kx0_13, Kx0_14⟩, ⟨Nx0_1, Nx0_2, Nx0_3, Nx0_4, Nx0_5, Nx0_6, Nx0_7, Nx0_8, Nx0_9, Nx0_10, Nx0_12, Nx0_13, Nx0_14⟩⟩ := tn_net Kx0_0
  refine tf_LW_go ?_
  exact ⟨(by first | rfl | trivial), q⟩
set_option maxRecDepth 100000 in
theorem go_X1_setBound_30 {nc : Nat} {C : tf_C} {Q : tf_Q} {h : LH} (hn : 270 ≤ nc) {x0 : Nat} {x1 : Int32} {x2 : Int32} (Kx0_0 : tf_K x0 = 0) (q : (vp_in x1 21) ∧ C 128 [.ref (x0), .int (1)] (tf_up h.1 (x0 + 4) (x1 : Int32).toNatClampNeg x2, h.2) (fun r g => lx_X1_setBound nc C Q 42 [.ref (x0), .int (x1), .int (x2)] [] g)) : lx_X1_setBound nc C Q 30 [.ref (x0), .int (x1), .int (x2)] [] h := by
  obtain ⟨Bx0, ⟨Kx0_1, Kx0_2, Kx0_3, Kx0_4, Kx0_5, Kx0_6, Kx0_7, Kx0_8, Kx0_9, Kx0_10, Kx0_11, Kx0_12, Kx0_13, Kx0_14⟩, ⟨Nx0_1, Nx0_2, Nx0_3, Nx0_4, Nx0_5, Nx0_6, Nx0_7, Nx0_8, Nx0_9, Nx0_10, Nx0_12, Nx0_13, Nx0_14⟩⟩ := tn_net Kx0_0
  refine tf_LW_go ?_
  show (tf_K x0 = 0 ∧ x0 < nc) ∧ (tf_K (tf_R x0 6) = 8 ∧ (tf_R x0 6) < nc ∧ vp_in x1 (tf_N (tf_R x0 6))) ∧ 2 ≤ 2 ∧ 0 ≤ 8 ∧ C 128 [.ref (x0), .int (1)] (tf_up h.1 (tf_R x0 6) (x1 : Int32).toNatClampNeg x2, h.2) (fun r g => lx_X1_setBound nc C Q 42 [.ref (x0), .int (x1), .int (x2)] [] g)
  try simp only [(show tf_R x0 6 = x0 + 4 by rw [tn_R0 Kx0_0]; try omega), Nx0_4]
  exact ⟨⟨Kx0_0, (show x0 < nc by omega)⟩, ⟨⟨Kx0_4, (show x0 + 4 < nc by omega), q.1⟩, ⟨Nat.le_of_ble_eq_true rfl, Nat.le_of_ble_eq_true rfl, q.2⟩⟩⟩
set_option maxRecDepth 100000 in
theorem go_X1_setBound_42 {nc : Nat} {C : tf_C} {Q : tf_Q} {h : LH} (hn : 270 ≤ nc) {x0 : Nat} {x1 : Int32} {x2 : Int32} (Kx0_0 : tf_K x0 = 0) (q : Q (.int (1)) h) : lx_X1_setBound nc C Q 42 [.ref (x0), .int (x1), .int (x2)] [] h := by
  obtain ⟨Bx0, ⟨Kx0_1, Kx0_2, Kx0_3, Kx0_4, Kx0_5, Kx0_6, Kx0_7, Kx0_8, Kx0_9, Kx0_10, Kx0_11, Kx0_12, Kx0_13, Kx0_14⟩, ⟨Nx0_1, Nx0_2, Nx0_3, Nx0_4, Nx0_5, Nx0_6, Nx0_7, Nx0_8, Nx0_9, Nx0_10, Nx0_12, Nx0_13, Nx0_14⟩⟩ := tn_net Kx0_0
  refine tf_LW_go ?_
  exact ⟨(by first | rfl | trivial), q⟩
abbrev lx_X1_setCost (nc : Nat) (C : tf_C) (Q : tf_Q) : tf_X := tf_LW nc C (tf_F 0) (tf_M 0) (tf_I 0) (tf_Eh 127) 2 tb_X1_setCost Q
set_option maxRecDepth 100000 in
theorem go_X1_setCost_0 {nc : Nat} {C : tf_C} {Q : tf_Q} {h : LH} (hn : 270 ≤ nc) {x0 : Nat} {x1 : Int32} {x2 : Int32} (Kx0_0 : tf_K x0 = 0) (q : C 119 [.ref (x0), .int (x1)] h (fun r g => lx_X1_setCost nc C Q 5 [.ref (x0), .int (x1), .int (x2)] (r :: []) g)) : lx_X1_setCost nc C Q 0 [.ref (x0), .int (x1), .int (x2)] [] h := by
  obtain ⟨Bx0, ⟨Kx0_1, Kx0_2, Kx0_3, Kx0_4, Kx0_5, Kx0_6, Kx0_7, Kx0_8, Kx0_9, Kx0_10, Kx0_11, Kx0_12, Kx0_13, Kx0_14⟩, ⟨Nx0_1, Nx0_2, Nx0_3, Nx0_4, Nx0_5, Nx0_6, Nx0_7, Nx0_8, Nx0_9, Nx0_10, Nx0_12, Nx0_13, Nx0_14⟩⟩ := tn_net Kx0_0
  refine tf_LW_go ?_
  exact ⟨Nat.le_of_ble_eq_true rfl, Nat.le_of_ble_eq_true rfl, q⟩
theorem en_X1_setCost {nc d : Nat} {Q : tf_Q} {h : LH} (hn : 270 ≤ nc) {x0 : Nat} {x1 : Int32} {x2 : Int32} (Kx0_0 : tf_K x0 = 0) (q : lx_X1_setCost nc (tf_Cd nc d) Q 0 [.ref (x0), .int (x1), .int (x2)] [] h) : tf_Cd nc (d + 1) 127 [.ref (x0), .int (x1), .int (x2)] h Q := by
  obtain ⟨Bx0, ⟨Kx0_1, Kx0_2, Kx0_3, Kx0_4, Kx0_5, Kx0_6, Kx0_7, Kx0_8, Kx0_9, Kx0_10, Kx0_11, Kx0_12, Kx0_13, Kx0_14⟩, ⟨Nx0_1, Nx0_2, Nx0_3, Nx0_4, Nx0_5, Nx0_6, Nx0_7, Nx0_8, Nx0_9, Nx0_10, Nx0_12, Nx0_13, Nx0_14⟩⟩ := tn_net Kx0_0
  exact ⟨⟨Nat.le_of_ble_eq_true rfl, Or.inr ⟨Kx0_0, (show x0 < nc by omega)⟩⟩, q⟩
set_option maxRecDepth 100000 in
theorem go_X1_setCost_5 {nc : Nat} {C : tf_C} {Q : tf_Q} {h : LH} (hn : 270 ≤ nc) {x0 : Nat} {x1 : Int32} {x2 : Int32} {y0 : Int32} (Kx0_0 : tf_K x0 = 0) (q : (y0 = (0 : Int32) → lx_X1_setCost nc C Q 30 [.ref (x0), .int (x1), .int (x2)] [] h) ∧ (¬ y0 = (0 : Int32) → (x2 < ((-99) : Int32) → lx_X1_setCost nc C Q 30 [.ref (x0), .int (x1), .int (x2)] [] h) ∧ (¬ x2 < ((-99) : Int32) → ((99 : Int32) < x2 → lx_X1_setCost nc C Q 30 [.ref (x0), .int (x1), .int (x2)] [] h) ∧ (¬ (99 : Int32) < x2 → (vp_in x1 21) ∧ (x2 = (h.1 (x0 + 5) (x1 : Int32).toNatClampNeg) → lx_X1_setCost nc C Q 30 [.ref (x0), .int (x1), .int (x2)] [] h) ∧ (¬ x2 = (h.1 (x0 + 5) (x1 : Int32).toNatClampNeg) → lx_X1_setCost nc C Q 32 [.ref (x0), .int (x1), .int (x2)] [] h))))) : lx_X1_setCost nc C Q 5 [.ref (x0), .int (x1), .int (x2)] [.int (y0)] h := by
  obtain ⟨Bx0, ⟨Kx0_1, Kx0_2, Kx0_3, Kx0_4, Kx0_5, Kx0_6, Kx0_7, Kx0_8, Kx0_9, Kx0_10, Kx0_11, Kx0_12, Kx0_13, Kx0_14⟩, ⟨Nx0_1, Nx0_2, Nx0_3, Nx0_4, Nx0_5, Nx0_6, Nx0_7, Nx0_8, Nx0_9, Nx0_10, Nx0_12, Nx0_13, Nx0_14⟩⟩ := tn_net Kx0_0
  refine tf_LW_go ?_
  show (y0 = (0 : Int32) → lx_X1_setCost nc C Q 30 [.ref (x0), .int (x1), .int (x2)] [] h) ∧ (¬ y0 = (0 : Int32) → (x2 < ((-99) : Int32) → lx_X1_setCost nc C Q 30 [.ref (x0), .int (x1), .int (x2)] [] h) ∧ (¬ x2 < ((-99) : Int32) → ((99 : Int32) < x2 → lx_X1_setCost nc C Q 30 [.ref (x0), .int (x1), .int (x2)] [] h) ∧ (¬ (99 : Int32) < x2 → (tf_K x0 = 0 ∧ x0 < nc) ∧ (tf_K (tf_R x0 7) = 8 ∧ (tf_R x0 7) < nc ∧ vp_in x1 (tf_N (tf_R x0 7))) ∧ (x2 = (h.1 (tf_R x0 7) (x1 : Int32).toNatClampNeg) → lx_X1_setCost nc C Q 30 [.ref (x0), .int (x1), .int (x2)] [] h) ∧ (¬ x2 = (h.1 (tf_R x0 7) (x1 : Int32).toNatClampNeg) → lx_X1_setCost nc C Q 32 [.ref (x0), .int (x1), .int (x2)] [] h))))
  try simp only [(show tf_R x0 7 = x0 + 5 by rw [tn_R0 Kx0_0]; try omega), Nx0_5]
  exact ⟨q.1, fun c4 => ⟨(q.2 c4).1, fun c3 => ⟨((q.2 c4).2 c3).1, fun c2 => ⟨⟨Kx0_0, (show x0 < nc by omega)⟩, ⟨⟨Kx0_5, (show x0 + 5 < nc by omega), (((q.2 c4).2 c3).2 c2).1⟩, ⟨fun c1 => ((((q.2 c4).2 c3).2 c2).2.1 c1), (((q.2 c4).2 c3).2 c2).2.2⟩⟩⟩⟩⟩⟩
set_option maxRecDepth 100000 in
theorem go_X1_setCost_30 {nc : Nat} {C : tf_C} {Q : tf_Q} {h : LH} (hn : 270 ≤ nc) {x0 : Nat} {x1 : Int32} {x2 : Int32} (Kx0_0 : tf_K x0 = 0) (q : Q (.int (0)) h) : lx_X1_setCost nc C Q 30 [.ref (x0), .int (x1), .int (x2)] [] h := by
  obtain ⟨Bx0, ⟨Kx0_1, Kx0_2, Kx0_3, Kx0_4, Kx0_5, Kx0_6, Kx0_7, Kx0_8, Kx0_9, Kx0_10, Kx0_11, Kx0_12, Kx0_13, Kx0_14⟩, ⟨Nx0_1, Nx0_2, Nx0_3, Nx0_4, Nx0_5, Nx0_6, Nx0_7, Nx0_8, Nx0_9, Nx0_10, Nx0_12, Nx0_13, Nx0_14⟩⟩ := tn_net Kx0_0
  refine tf_LW_go ?_
  exact ⟨(by first | rfl | trivial), q⟩
set_option maxRecDepth 100000 in
theorem go_X1_setCost_32 {nc : Nat} {C : tf_C} {Q : tf_Q} {h : LH} (hn : 270 ≤ nc) {x0 : Nat} {x1 : Int32} {x2 : Int32} (Kx0_0 : tf_K x0 = 0) (q : (vp_in x1 21) ∧ C 130 [.ref (x0)] (tf_up h.1 (x0 + 5) (x1 : Int32).toNatClampNeg x2, h.2) (fun r g => lx_X1_setCost nc C Q 43 [.ref (x0), .int (x1), .int (x2)] [] g)) : lx_X1_setCost nc C Q 32 [.ref (x0), .int (x1), .int (x2)] [] h := by
  obtain ⟨Bx0, ⟨Kx0_1, Kx0_2, Kx0_3, Kx0_4, Kx0_5, Kx0_6, Kx0_7, Kx0_8, Kx0_9, Kx0_10, Kx0_11, Kx0_12, Kx0_13, Kx0_14⟩, ⟨Nx0_1, Nx0_2, Nx0_3, Nx0_4, Nx0_5, Nx0_6, Nx0_7, Nx0_8, Nx0_9, Nx0_10, Nx0_12, Nx0_13, Nx0_14⟩⟩ := tn_net Kx0_0
  refine tf_LW_go ?_
  show (tf_K x0 = 0 ∧ x0 < nc) ∧ (tf_K (tf_R x0 7) = 8 ∧ (tf_R x0 7) < nc ∧ vp_in x1 (tf_N (tf_R x0 7))) ∧ 1 ≤ 1 ∧ 0 ≤ 8 ∧ C 130 [.ref (x0)] (tf_up h.1 (tf_R x0 7) (x1 : Int32).toNatClampNeg x2, h.2) (fun r g => lx_X1_setCost nc C Q 43 [.ref (x0), .int (x1), .int (x2)] [] g)
  try simp only [(show tf_R x0 7 = x0 + 5 by rw [tn_R0 Kx0_0]; try omega), Nx0_5]
  exact ⟨⟨Kx0_0, (show x0 < nc by omega)⟩, ⟨⟨Kx0_5, (show x0 + 5 < nc by omega), q.1⟩, ⟨Nat.le_of_ble_eq_true rfl, Nat.le_of_ble_eq_true rfl, q.2⟩⟩⟩
set_option maxRecDepth 100000 in
theorem go_X1_setCost_43 {nc : Nat} {C : tf_C} {Q : tf_Q} {h : LH} (hn : 270 ≤ nc) {x0 : Nat} {x1 : Int32} {x2 : Int32} (Kx0_0 : tf_K x0 = 0) (q : Q (.int (1)) h) : lx_X1_setCost nc C Q 43 [.ref (x0), .int (x1), .int (x2)] [] h := by
  obtain ⟨Bx0, ⟨Kx0_1, Kx0_2, Kx0_3, Kx0_4, Kx0_5, Kx0_6, Kx0_7, Kx0_8, Kx0_9, Kx0_10, Kx0_11, Kx0_12, Kx0_13, Kx0_14⟩, ⟨Nx0_1, Nx0_2, Nx0_3, Nx0_4, Nx0_5, Nx0_6, Nx0_7, Nx0_8, Nx0_9, Nx0_10, Nx0_12, Nx0_13, Nx0_14⟩⟩ := tn_net Kx0_0
  refine tf_LW_go ?_
  exact ⟨(by first | rfl | trivial), q⟩
abbrev lx_X1_begin (nc : Nat) (C : tf_C) (Q : tf_Q) : tf_X := tf_LW nc C (tf_F 0) (tf_M 0) (tf_I 0) (tf_Eh 128) 0 tb_X1_begin Q
set_option maxRecDepth 100000 in
theorem go_X1_begin_0 {nc : Nat} {C : tf_C} {Q : tf_Q} {h : LH} (hn : 270 ≤ nc) {x0 : Nat} {x1 : Int32} (Kx0_0 : tf_K x0 = 0) (q : lx_X1_begin nc C Q 2 [.ref (x0), .int (x1), .int (0), tf_z] [] h) : lx_X1_begin nc C Q 0 [.ref (x0), .int (x1), tf_z, tf_z] [] h := by
  obtain ⟨Bx0, ⟨Kx0_1, Kx0_2, Kx0_3, Kx0_4, Kx0_5, Kx0_6, Kx0_7, Kx0_8, Kx0_9, Kx0_10, Kx0_11, Kx0_12, Kx0_13, Kx0_14⟩, ⟨Nx0_1, Nx0_2, Nx0_3, Nx0_4, Nx0_5, Nx0_6, Nx0_7, Nx0_8, Nx0_9, Nx0_10, Nx0_12, Nx0_13, Nx0_14⟩⟩ := tn_net Kx0_0
  refine tf_LW_go ?_
  exact q
theorem en_X1_begin {nc d : Nat} {Q : tf_Q} {h : LH} (hn : 270 ≤ nc) {x0 : Nat} {x1 : Int32} (Kx0_0 : tf_K x0 = 0) (q : lx_X1_begin nc (tf_Cd nc d) Q 0 [.ref (x0), .int (x1), tf_z, tf_z] [] h) : tf_Cd nc (d + 1) 128 [.ref (x0), .int (x1)] h Q := by
  obtain ⟨Bx0, ⟨Kx0_1, Kx0_2, Kx0_3, Kx0_4, Kx0_5, Kx0_6, Kx0_7, Kx0_8, Kx0_9, Kx0_10, Kx0_11, Kx0_12, Kx0_13, Kx0_14⟩, ⟨Nx0_1, Nx0_2, Nx0_3, Nx0_4, Nx0_5, Nx0_6, Nx0_7, Nx0_8, Nx0_9, Nx0_10, Nx0_12, Nx0_13, Nx0_14⟩⟩ := tn_net Kx0_0
  exact ⟨⟨Nat.le_of_ble_eq_true rfl, Or.inr ⟨Kx0_0, (show x0 < nc by omega)⟩⟩, q⟩
set_option maxRecDepth 100000 in
theorem go_X1_begin_2 {nc : Nat} {C : tf_C} {Q : tf_Q} {h : LH} (hn : 270 ≤ nc) {x0 : Nat} {x1 : Int32} {x2 : Int32} {x3 : Value} (Kx0_0 : tf_K x0 = 0) (q : ((h.1 x0 1) ≤ x2 → lx_X1_begin nc C Q 107 [.ref (x0), .int (x1), .int (x2), x3] [] h) ∧ (¬ (h.1 x0 1) ≤ x2 → (vp_in x2 21) ∧ ((h.1 (x0 + 7) (x2 : Int32).toNatClampNeg) = (3 : Int32) → (vp_in x2 21) ∧ lx_X1_begin nc C Q 101 [.ref (x0), .int (x1), .int (x2), x3] [] (tf_up h.1 (x0 + 6) (x2 : Int32).toNatClampNeg 0, h.2)) ∧ (¬ (h.1 (x0 + 7) (x2 : Int32).toNatClampNeg) = (3 : Int32) → lx_X1_begin nc C Q 30 [.ref (x0), .int (x1), .int (x2), x3] [] h))) : lx_X1_begin nc C Q 2 [.ref (x0), .int (x1), .int (x2), x3] [] h := by
  obtain ⟨Bx0, ⟨Kx0_1, Kx0_2, Kx0_3, Kx0_4, Kx0_5, Kx0_6, Kx0_7, Kx0_8, Kx0_9, Kx0_10, Kx0_11, Kx0_12, Kx0_13, Kx0_14⟩, ⟨Nx0_1, Nx0_2, Nx0_3, Nx0_4, Nx0_5, Nx0_6, Nx0_7, Nx0_8, Nx0_9, Nx0_10, Nx0_12, Nx0_13, Nx0_14⟩⟩ := tn_net Kx0_0
  refine tf_LW_go ?_
  show (tf_K x0 = 0 ∧ x0 < nc) ∧ ((h.1 x0 1) ≤ x2 → lx_X1_begin nc C Q 107 [.ref (x0), .int (x1), .int (x2), x3] [] h) ∧ (¬ (h.1 x0 1) ≤ x2 → (tf_K x0 = 0 ∧ x0 < nc) ∧ (tf_K (tf_R x0 9) = 8 ∧ (tf_R x0 9) < nc ∧ vp_in x2 (tf_N (tf_R x0 9))) ∧ ((h.1 (tf_R x0 9) (x2 : Int32).toNatClampNeg) = (3 : Int32) → (tf_K x0 = 0 ∧ x0 < nc) ∧ (tf_K (tf_R x0 8) = 8 ∧ (tf_R x0 8) < nc ∧ vp_in x2 (tf_N (tf_R x0 8))) ∧ lx_X1_begin nc C Q 101 [.ref (x0), .int (x1), .int (x2), x3] [] (tf_up h.1 (tf_R x0 8) (x2 : Int32).toNatClampNeg 0, h.2)) ∧ (¬ (h.1 (tf_R x0 9) (x2 : Int32).toNatClampNeg) = (3 : Int32) → lx_X1_begin nc C Q 30 [.ref (x0), .int (x1), .int (x2), x3] [] h))
  try simp only [(show tf_R x0 8 = x0 + 6 by rw [tn_R0 Kx0_0]; try omega), (show tf_R x0 9 = x0 + 7 by rw [tn_R0 Kx0_0]; try omega), Nx0_6, Nx0_7]
  exact ⟨⟨Kx0_0, (show x0 < nc by omega)⟩, ⟨q.1, fun c2 => ⟨⟨Kx0_0, (show x0 < nc by omega)⟩, ⟨⟨Kx0_7, (show x0 + 7 < nc by omega), (q.2 c2).1⟩, ⟨fun c1 => ⟨⟨Kx0_0, (show x0 < nc by omega)⟩, ⟨⟨Kx0_6, (show x0 + 6 < nc by omega), ((q.2 c2).2.1 c1).1⟩, ((q.2 c2).2.1 c1).2⟩⟩, (q.2 c2).2.2⟩⟩⟩⟩⟩
set_option maxRecDepth 100000 in
theorem go_X1_begin_30 {nc : Nat} {C : tf_C} {Q : tf_Q} {h : LH} (hn : 270 ≤ nc) {x0 : Nat} {x1 : Int32} {x2 : Int32} {x3 : Value} (Kx0_0 : tf_K x0 = 0) (q : (x1 = (0 : Int32) → lx_X1_begin nc C Q 64 [.ref (x0), .int (x1), .int (x2), x3] [] h) ∧ (¬ x1 = (0 : Int32) → (vp_in x2 21) ∧ ((h.1 (x0 + 4) (x2 : Int32).toNatClampNeg) ≤ (0 : Int32) → lx_X1_begin nc C Q 64 [.ref (x0), .int (x1), .int (x2), x3] [] h) ∧ (¬ (h.1 (x0 + 4) (x2 : Int32).toNatClampNeg) ≤ (0 : Int32) → (vp_in x2 21) ∧ (vp_in x2 21) ∧ ((2 * (h.1 (x0 + 6) (x2 : Int32).toNatClampNeg)) < (h.1 (x0 + 4) (x2 : Int32).toNatClampNeg) → lx_X1_begin nc C Q 64 [.ref (x0), .int (x1), .int (x2), x3] [] h) ∧ (¬ (2 * (h.1 (x0 + 6) (x2 : Int32).toNatClampNeg)) < (h.1 (x0 + 4) (x2 : Int32).toNatClampNeg) → lx_X1_begin nc C Q 65 [.ref (x0), .int (x1), .int (x2), x3] [.int (1)] h)))) : lx_X1_begin nc C Q 30 [.ref (x0), .int (x1), .int (x2), x3] [] h := by
  obtain ⟨Bx0, ⟨Kx0_1, Kx0_2, Kx0_3, Kx0_4, Kx0_5, Kx0_6, Kx0_7, Kx0_8, Kx0_9, Kx0_10, Kx0_11, Kx0_12, Kx0_13, Kx0_14⟩, ⟨Nx0_1, Nx0_2, Nx0_3, Nx0_4, Nx0_5, Nx0_6, Nx0_7, Nx0_8, Nx0_9, Nx0_10, Nx0_12, Nx0_13, Nx0_14⟩⟩ := tn_net Kx0_0
  refine tf_LW_go ?_
  show (x1 = (0 : Int32) → lx_X1_begin nc C Q 64 [.ref (x0), .int (x1), .int (x2), x3] [] h) ∧ (¬ x1 = (0 : Int32) → (tf_K x0 = 0 ∧ x0 < nc) ∧ (tf_K (tf_R x0 6) = 8 ∧ (tf_R x0 6) < nc ∧ vp_in x2 (tf_N (tf_R x0 6))) ∧ ((h.1 (tf_R x0 6) (x2 : Int32).toNatClampNeg) ≤ (0 : Int32) → lx_X1_begin nc C Q 64 [.ref (x0), .int (x1), .int (x2), x3] [] h) ∧ (¬ (h.1 (tf_R x0 6) (x2 : Int32).toNatClampNeg) ≤ (0 : Int32) → (tf_K x0 = 0 ∧ x0 < nc) ∧ (tf_K (tf_R x0 8) = 8 ∧ (tf_R x0 8) < nc ∧ vp_in x2 (tf_N (tf_R x0 8))) ∧ (tf_K x0 = 0 ∧ x0 < nc) ∧ (tf_K (tf_R x0 6) = 8 ∧ (tf_R x0 6) < nc ∧ vp_in x2 (tf_N (tf_R x0 6))) ∧ ((2 * (h.1 (tf_R x0 8) (x2 : Int32).toNatClampNeg)) < (h.1 (tf_R x0 6) (x2 : Int32).toNatClampNeg) → lx_X1_begin nc C Q 64 [.ref (x0), .int (x1), .int (x2), x3] [] h) ∧ (¬ (2 * (h.1 (tf_R x0 8) (x2 : Int32).toNatClampNeg)) < (h.1 (tf_R x0 6) (x2 : Int32).toNatClampNeg) → lx_X1_begin nc C Q 65 [.ref (x0), .int (x1), .int (x2), x3] [.int (1)] h)))
  try simp only [(show tf_R x0 6 = x0 + 4 by rw [tn_R0 Kx0_0]; try omega), (show tf_R x0 8 = x0 + 6 by rw [tn_R0 Kx0_0]; try omega), Nx0_4, Nx0_6]
  exact ⟨q.1, fun c3 => ⟨⟨Kx0_0, (show x0 < nc by omega)⟩, ⟨⟨Kx0_4, (show x0 + 4 < nc by omega), (q.2 c3).1⟩, ⟨(q.2 c3).2.1, fun c2 => ⟨⟨Kx0_0, (show x0 < nc by omega)⟩, ⟨⟨Kx0_6, (show x0 + 6 < nc by omega), ((q.2 c3).2.2 c2).1⟩, ⟨⟨Kx0_0, (show x0 < nc by omega)⟩, ⟨⟨Kx0_4, (show x0 + 4 < nc by omega), ((q.2 c3).2.2 c2).2.1⟩, ⟨((q.2 c3).2.2 c2).2.2.1, fun c1 => (((q.2 c3).2.2 c2).2.2.2 c1)⟩⟩⟩⟩⟩⟩⟩⟩⟩
set_option maxRecDepth 100000 in
theorem go_X1_begin_64 {nc : Nat} {C : tf_C} {Q : tf_Q} {h : LH} (hn : 270 ≤ nc) {x0 : Nat} {x1 : Int32} {x2 : Int32} {x3 : Value} (Kx0_0 : tf_K x0 = 0) (q : lx_X1_begin nc C Q 65 [.ref (x0), .int (x1), .int (x2), x3] [.int (0)] h) : lx_X1_begin nc C Q 64 [.ref (x0), .int (x1), .int (x2), x3] [] h := by
  obtain ⟨Bx0, ⟨Kx0_1, Kx0_2, Kx0_3, Kx0_4, Kx0_5, Kx0_6, Kx0_7, Kx0_8, Kx0_9, Kx0_10, Kx0_11, Kx0_12, Kx0_13, Kx0_14⟩, ⟨Nx0_1, Nx0_2, Nx0_3, Nx0_4, Nx0_5, Nx0_6, Nx0_7, Nx0_8, Nx0_9, Nx0_10, Nx0_12, Nx0_13, Nx0_14⟩⟩ := tn_net Kx0_0
  refine tf_LW_go ?_
  exact q
set_option maxRecDepth 100000 in
theorem go_X1_begin_65 {nc : Nat} {C : tf_C} {Q : tf_Q} {h : LH} (hn : 270 ≤ nc) {x0 : Nat} {x1 : Int32} {x2 : Int32} {x3 : Value} {y0 : Int32} (Kx0_0 : tf_K x0 = 0) (q : (y0 = (0 : Int32) → lx_X1_begin nc C Q 79 [.ref (x0), .int (x1), .int (x2), .int (y0)] [.int (x2), .ref (x0 + 7)] h) ∧ (¬ y0 = (0 : Int32) → lx_X1_begin nc C Q 80 [.ref (x0), .int (x1), .int (x2), .int (y0)] [.int (1), .int (x2), .ref (x0 + 7)] h)) : lx_X1_begin nc C Q 65 [.ref (x0), .int (x1), .int (x2), x3] [.int (y0)] h := by
  obtain ⟨Bx0, ⟨Kx0_1, Kx0_2, Kx0_3, Kx0_4, Kx0_5, Kx0_6, Kx0_7, Kx0_8, Kx0_9, Kx0_10, Kx0_11, Kx0_12, Kx0_13, Kx0_14⟩, ⟨Nx0_1, Nx0_2, Nx0_3, Nx0_4, Nx0_5, Nx0_6, Nx0_7, Nx0_8, Nx0_9, Nx0_10, Nx0_12, Nx0_13, Nx0_14⟩⟩ := tn_net Kx0_0
  refine tf_LW_go ?_
  show (tf_K x0 = 0 ∧ x0 < nc) ∧ (y0 = (0 : Int32) → lx_X1_begin nc C Q 79 [.ref (x0), .int (x1), .int (x2), .int (y0)] [.int (x2), .ref (tf_R x0 9)] h) ∧ (¬ y0 = (0 : Int32) → lx_X1_begin nc C Q 80 [.ref (x0), .int (x1), .int (x2), .int (y0)] [.int (1), .int (x2), .ref (tf_R x0 9)] h)
  try simp only [(show tf_R x0 9 = x0 + 7 by rw [tn_R0 Kx0_0]; try omega), Nx0_7]
  exact ⟨⟨Kx0_0, (show x0 < nc by omega)⟩, ⟨q.1, fun c1 => (q.2 c1)⟩⟩
set_option maxRecDepth 100000 in
theorem go_X1_begin_79 {nc : Nat} {C : tf_C} {Q : tf_Q} {h : LH} (hn : 270 ≤ nc) {x0 : Nat} {x1 : Int32} {x2 : Int32} {x3 : Int32} {y0 ny0 : Nat} {y1 : Int32} (Kx0_0 : tf_K x0 = 0) (Ky0_0 : tf_K y0 = 8) (Ny0_0 : tf_N y0 = ny0) (By0 : y0 < nc) (q : lx_X1_begin nc C Q 80 [.ref (x0), .int (x1), .int (x2), .int (x3)] [.int (0), .int (y1), .ref (y0)] h) : lx_X1_begin nc C Q 79 [.ref (x0), .int (x1), .int (x2), .int (x3)] [.int (y1), .ref (y0)] h := by
  obtain ⟨Bx0, ⟨Kx0_1, Kx0_2, Kx0_3, Kx0_4, Kx0_5, Kx0_6, Kx0_7, Kx0_8, Kx0_9, Kx0_10, Kx0_11, Kx0_12, Kx0_13, Kx0_14⟩, ⟨Nx0_1, Nx0_2, Nx0_3, Nx0_4, Nx0_5, Nx0_6, Nx0_7, Nx0_8, Nx0_9, Nx0_10, Nx0_12, Nx0_13, Nx0_14⟩⟩ := tn_net Kx0_0
  refine tf_LW_go ?_
  show lx_X1_begin nc C Q 80 [.ref (x0), .int (x1), .int (x2), .int (x3)] [.int (0), .int (y1), .ref (y0)] h
  try simp only [Ny0_0]
  exact q
set_option maxRecDepth 100000 in
theorem go_X1_begin_80 {nc : Nat} {C : tf_C} {Q : tf_Q} {h : LH} (hn : 270 ≤ nc) {x0 : Nat} {x1 : Int32} {x2 : Int32} {x3 : Int32} {y0 ny0 : Nat} {y1 : Int32} {y2 : Int32} (Kx0_0 : tf_K x0 = 0) (Ky0_0 : tf_K y0 = 8) (Ny0_0 : tf_N y0 = ny0) (By0 : y0 < nc) (q : (vp_in y1 ny0) ∧ (x3 = (0 : Int32) → lx_X1_begin nc C Q 99 [.ref (x0), .int (x1), .int (x2), .int (x3)] [.int (x2), .ref (x0 + 6)] (tf_up h.1 y0 (y1 : Int32).toNatClampNeg y2, h.2)) ∧ (¬ x3 = (0 : Int32) → (vp_in x2 21) ∧ lx_X1_begin nc C Q 100 [.ref (x0), .int (x1), .int (x2), .int (x3)] [.int ((tf_up h.1 y0 (y1 : Int32).toNatClampNeg y2) (x0 + 4) (x2 : Int32).toNatClampNeg), .int (x2), .ref (x0 + 6)] (tf_up h.1 y0 (y1 : Int32).toNatClampNeg y2, h.2))) : lx_X1_begin nc C Q 80 [.ref (x0), .int (x1), .int (x2), .int (x3)] [.int (y2), .int (y1), .ref (y0)] h := by
  obtain ⟨Bx0, ⟨Kx0_1, Kx0_2, Kx0_3, Kx0_4, Kx0_5, Kx0_6, Kx0_7, Kx0_8, Kx0_9, Kx0_10, Kx0_11, Kx0_12, Kx0_13, Kx0_14⟩, ⟨Nx0_1, Nx0_2, Nx0_3, Nx0_4, Nx0_5, Nx0_6, Nx0_7, Nx0_8, Nx0_9, Nx0_10, Nx0_12, Nx0_13, Nx0_14⟩⟩ := tn_net Kx0_0
  refine tf_LW_go ?_
  show (tf_K y0 = 8 ∧ y0 < nc ∧ vp_in y1 (tf_N y0)) ∧ (tf_K x0 = 0 ∧ x0 < nc) ∧ (x3 = (0 : Int32) → lx_X1_begin nc C Q 99 [.ref (x0), .int (x1), .int (x2), .int (x3)] [.int (x2), .ref (tf_R x0 8)] (tf_up h.1 y0 (y1 : Int32).toNatClampNeg y2, h.2)) ∧ (¬ x3 = (0 : Int32) → (tf_K x0 = 0 ∧ x0 < nc) ∧ (tf_K (tf_R x0 6) = 8 ∧ (tf_R x0 6) < nc ∧ vp_in x2 (tf_N (tf_R x0 6))) ∧ lx_X1_begin nc C Q 100 [.ref (x0), .int (x1), .int (x2), .int (x3)] [.int ((tf_up h.1 y0 (y1 : Int32).toNatClampNeg y2) (tf_R x0 6) (x2 : Int32).toNatClampNeg), .int (x2), .ref (tf_R x0 8)] (tf_up h.1 y0 (y1 : Int32).toNatClampNeg y2, h.2))
  try simp only [(show tf_R x0 6 = x0 + 4 by rw [tn_R0 Kx0_0]; try omega), (show tf_R x0 8 = x0 + 6 by rw [tn_R0 Kx0_0]; try omega), Nx0_4, Nx0_6, Ny0_0]
  exact ⟨⟨Ky0_0, (show y0 < nc by omega), q.1⟩, ⟨⟨Kx0_0, (show x0 < nc by omega)⟩, ⟨q.2.1, fun c1 => ⟨⟨Kx0_0, (show x0 < nc by omega)⟩, ⟨⟨Kx0_4, (show x0 + 4 < nc by omega), (q.2.2 c1).1⟩, (q.2.2 c1).2⟩⟩⟩⟩⟩
set_option maxRecDepth 100000 in
theorem go_X1_begin_99 {nc : Nat} {C : tf_C} {Q : tf_Q} {h : LH} (hn : 270 ≤ nc) {x0 : Nat} {x1 : Int32} {x2 : Int32} {x3 : Int32} {y0 ny0 : Nat} {y1 : Int32} (Kx0_0 : tf_K x0 = 0) (Ky0_0 : tf_K y0 = 8) (Ny0_0 : tf_N y0 = ny0) (By0 : y0 < nc) (q : lx_X1_begin nc C Q 100 [.ref (x0), .int (x1), .int (x2), .int (x3)] [.int (0), .int (y1), .ref (y0)] h) : lx_X1_begin nc C Q 99 [.ref (x0), .int (x1), .int (x2), .int (x3)] [.int (y1), .ref (y0)] h := by
  obtain ⟨Bx0, ⟨Kx0_1, Kx0_2, Kx0_3, Kx0_4, Kx0_5, Kx0_6, Kx0_7, Kx0_8, Kx0_9, Kx0_10, Kx0_11, Kx0_12, Kx0_13, Kx0_14⟩, ⟨Nx0_1, Nx0_2, Nx0_3, Nx0_4, Nx0_5, Nx0_6, Nx0_7, Nx0_8, Nx0_9, Nx0_10, Nx0_12, Nx0_13, Nx0_14⟩⟩ := tn_net Kx0_0
  refine tf_LW_go ?_
  show lx_X1_begin nc C Q 100 [.ref (x0), .int (x1), .int (x2), .int (x3)] [.int (0), .int (y1), .ref (y0)] h
  try simp only [Ny0_0]
  exact q
set_option maxRecDepth 100000 in
theorem go_X1_begin_100 {nc : Nat} {C : tf_C} {Q : tf_Q} {h : LH} (hn : 270 ≤ nc) {x0 : Nat} {x1 : Int32} {x2 : Int32} {x3 : Int32} {y0 ny0 : Nat} {y1 : Int32} {y2 : Int32} (Kx0_0 : tf_K x0 = 0) (Ky0_0 : tf_K y0 = 8) (Ny0_0 : tf_N y0 = ny0) (By0 : y0 < nc) (q : (vp_in y1 ny0) ∧ lx_X1_begin nc C Q 101 [.ref (x0), .int (x1), .int (x2), .int (x3)] [] (tf_up h.1 y0 (y1 : Int32).toNatClampNeg y2, h.2)) : lx_X1_begin nc C Q 100 [.ref (x0), .int (x1), .int (x2), .int (x3)] [.int (y2), .int (y1), .ref (y0)] h := by
  obtain ⟨Bx0, ⟨Kx0_1, Kx0_2, Kx0_3, Kx0_4, Kx0_5, Kx0_6, Kx0_7, Kx0_8, Kx0_9, Kx0_10, Kx0_11, Kx0_12, Kx0_13, Kx0_14⟩, ⟨Nx0_1, Nx0_2, Nx0_3, Nx0_4, Nx0_5, Nx0_6, Nx0_7, Nx0_8, Nx0_9, Nx0_10, Nx0_12, Nx0_13, Nx0_14⟩⟩ := tn_net Kx0_0
  refine tf_LW_go ?_
  show (tf_K y0 = 8 ∧ y0 < nc ∧ vp_in y1 (tf_N y0)) ∧ lx_X1_begin nc C Q 101 [.ref (x0), .int (x1), .int (x2), .int (x3)] [] (tf_up h.1 y0 (y1 : Int32).toNatClampNeg y2, h.2)
  try simp only [Ny0_0]
  exact ⟨⟨Ky0_0, (show y0 < nc by omega), q.1⟩, q.2⟩
set_option maxRecDepth 100000 in
theorem go_X1_begin_101 {nc : Nat} {C : tf_C} {Q : tf_Q} {h : LH} (hn : 270 ≤ nc) {x0 : Nat} {x1 : Int32} {x2 : Int32} {x3 : Value} (Kx0_0 : tf_K x0 = 0) (q : lx_X1_begin nc C Q 2 [.ref (x0), .int (x1), .int (x2 + 1), x3] [] h) : lx_X1_begin nc C Q 101 [.ref (x0), .int (x1), .int (x2), x3] [] h := by
  obtain ⟨Bx0, ⟨Kx0_1, Kx0_2, Kx0_3, Kx0_4, Kx0_5, Kx0_6, Kx0_7, Kx0_8, Kx0_9, Kx0_10, Kx0_11, Kx0_12, Kx0_13, Kx0_14⟩, ⟨Nx0_1, Nx0_2, Nx0_3, Nx0_4, Nx0_5, Nx0_6, Nx0_7, Nx0_8, Nx0_9, Nx0_10, Nx0_12, Nx0_13, Nx0_14⟩⟩ := tn_net Kx0_0
  refine tf_LW_go ?_
  exact q
set_option maxRecDepth 100000 in
theorem go_X1_begin_107 {nc : Nat} {C : tf_C} {Q : tf_Q} {h : LH} (hn : 270 ≤ nc) {x0 : Nat} {x1 : Int32} {x2 : Int32} {x3 : Value} (Kx0_0 : tf_K x0 = 0) (q : lx_X1_begin nc C Q 109 [.ref (x0), .int (x1), .int (0), x3] [] h) : lx_X1_begin nc C Q 107 [.ref (x0), .int (x1), .int (x2), x3] [] h := by
  obtain ⟨Bx0, ⟨Kx0_1, Kx0_2, Kx0_3, Kx0_4, Kx0_5, Kx0_6, Kx0_7, Kx0_8, Kx0_9, Kx0_10, Kx0_11, Kx0_12, Kx0_13, Kx0_14⟩, ⟨Nx0_1, Nx0_2, Nx0_3, Nx0_4, Nx0_5, Nx0_6, Nx0_7, Nx0_8, Nx0_9, Nx0_10, Nx0_12, Nx0_13, Nx0_14⟩⟩ := tn_net Kx0_0
  refine tf_LW_go ?_
  exact q
set_option maxRecDepth 100000 in
theorem go_X1_begin_109 {nc : Nat} {C : tf_C} {Q : tf_Q} {h : LH} (hn : 270 ≤ nc) {x0 : Nat} {x1 : Int32} {x2 : Int32} {x3 : Value} (Kx0_0 : tf_K x0 = 0) (q : ((h.1 x0 0) ≤ x2 → lx_X1_begin nc C Q 128 [.ref (x0), .int (x1), .int (x2), x3] [] h) ∧ (¬ (h.1 x0 0) ≤ x2 → C 129 [.ref (x0), .int (x2)] h (fun r g => lx_X1_begin nc C Q 122 [.ref (x0), .int (x1), .int (x2), x3] [] g))) : lx_X1_begin nc C Q 109 [.ref (x0), .int (x1), .int (x2), x3] [] h := by
  obtain ⟨Bx0, ⟨Kx0_1, Kx0_2, Kx0_3, Kx0_4, Kx0_5, Kx0_6, Kx0_7, Kx0_8, Kx0_9, Kx0_10, Kx0_11, Kx0_12, Kx0_13, Kx0_14⟩, ⟨Nx0_1, Nx0_2, Nx0_3, Nx0_4, Nx0_5, Nx0_6, Nx0_7, Nx0_8, Nx0_9, Nx0_10, Nx0_12, Nx0_13, Nx0_14⟩⟩ := tn_net Kx0_0
  refine tf_LW_go ?_
  exact ⟨⟨Kx0_0, (show x0 < nc by omega)⟩, ⟨q.1, fun c1 => ⟨Nat.le_of_ble_eq_true rfl, Nat.le_of_ble_eq_true rfl, (q.2 c1)⟩⟩⟩
set_option maxRecDepth 100000 in
theorem go_X1_begin_122 {nc : Nat} {C : tf_C} {Q : tf_Q} {h : LH} (hn : 270 ≤ nc) {x0 : Nat} {x1 : Int32} {x2 : Int32} {x3 : Value} (Kx0_0 : tf_K x0 = 0) (q : lx_X1_begin nc C Q 109 [.ref (x0), .int (x1), .int (x2 + 1), x3] [] h) : lx_X1_begin nc C Q 122 [.ref (x0), .int (x1), .int (x2), x3] [] h := by
  obtain ⟨Bx0, ⟨Kx0_1, Kx0_2, Kx0_3, Kx0_4, Kx0_5, Kx0_6, Kx0_7, Kx0_8, Kx0_9, Kx0_10, Kx0_11, Kx0_12, Kx0_13, Kx0_14⟩, ⟨Nx0_1, Nx0_2, Nx0_3, Nx0_4, Nx0_5, Nx0_6, Nx0_7, Nx0_8, Nx0_9, Nx0_10, Nx0_12, Nx0_13, Nx0_14⟩⟩ := tn_net Kx0_0
  refine tf_LW_go ?_
  exact q
set_option maxRecDepth 100000 in
theorem go_X1_begin_128 {nc : Nat} {C : tf_C} {Q : tf_Q} {h : LH} (hn : 270 ≤ nc) {x0 : Nat} {x1 : Int32} {x2 : Int32} {x3 : Value} (Kx0_0 : tf_K x0 = 0) (q : C 130 [.ref (x0)] h (fun r g => lx_X1_begin nc C Q 132 [.ref (x0), .int (x1), .int (x2), x3] [] g)) : lx_X1_begin nc C Q 128 [.ref (x0), .int (x1), .int (x2), x3] [] h := by
  obtain ⟨Bx0, ⟨Kx0_1, Kx0_2, Kx0_3, Kx0_4, Kx0_5, Kx0_6, Kx0_7, Kx0_8, Kx0_9, Kx0_10, Kx0_11, Kx0_12, Kx0_13, Kx0_14⟩, ⟨Nx0_1, Nx0_2, Nx0_3, Nx0_4, Nx0_5, Nx0_6, Nx0_7, Nx0_8, Nx0_9, Nx0_10, Nx0_12, Nx0_13, Nx0_14⟩⟩ := tn_net Kx0_0
  refine tf_LW_go ?_
  exact ⟨Nat.le_of_ble_eq_true rfl, Nat.le_of_ble_eq_true rfl, q⟩
set_option maxRecDepth 100000 in
theorem go_X1_begin_132 {nc : Nat} {C : tf_C} {Q : tf_Q} {h : LH} (hn : 270 ≤ nc) {x0 : Nat} {x1 : Int32} {x2 : Int32} {x3 : Value} (Kx0_0 : tf_K x0 = 0) (q : Q tf_z (tf_up h.1 (x0 + 11) 2 ((h.1 (x0 + 11) 2) + 1), h.2)) : lx_X1_begin nc C Q 132 [.ref (x0), .int (x1), .int (x2), x3] [] h := by
  obtain ⟨Bx0, ⟨Kx0_1, Kx0_2, Kx0_3, Kx0_4, Kx0_5, Kx0_6, Kx0_7, Kx0_8, Kx0_9, Kx0_10, Kx0_11, Kx0_12, Kx0_13, Kx0_14⟩, ⟨Nx0_1, Nx0_2, Nx0_3, Nx0_4, Nx0_5, Nx0_6, Nx0_7, Nx0_8, Nx0_9, Nx0_10, Nx0_12, Nx0_13, Nx0_14⟩⟩ := tn_net Kx0_0
  refine tf_LW_go ?_
  show (tf_K x0 = 0 ∧ x0 < nc) ∧ (tf_K (tf_R x0 13) = 4 ∧ (tf_R x0 13) < nc) ∧ (tf_K (tf_R x0 13) = 4 ∧ (tf_R x0 13) < nc ∧ tf_S 4 2 = 0) ∧ 0 = 0 ∧ Q tf_z (tf_up h.1 (tf_R x0 13) 2 ((h.1 (tf_R x0 13) 2) + 1), h.2)
  try simp only [(show tf_R x0 13 = x0 + 11 by rw [tn_R0 Kx0_0]; try omega)]
  exact ⟨⟨Kx0_0, (show x0 < nc by omega)⟩, ⟨⟨Kx0_11, (show x0 + 11 < nc by omega)⟩, ⟨⟨Kx0_11, (show x0 + 11 < nc by omega), (by first | rfl | trivial)⟩, ⟨(by first | rfl | trivial), q⟩⟩⟩⟩
abbrev lx_X1_hangByLoan (nc : Nat) (C : tf_C) (Q : tf_Q) : tf_X := tf_LW nc C (tf_F 0) (tf_M 0) (tf_I 0) (tf_Eh 129) 0 tb_X1_hangByLoan Q
set_option maxRecDepth 100000 in
theorem go_X1_hangByLoan_0 {nc : Nat} {C : tf_C} {Q : tf_Q} {h : LH} (hn : 270 ≤ nc) {x0 : Nat} {x1 : Int32} (Kx0_0 : tf_K x0 = 0) (q : (vp_in x1 7) ∧ lx_X1_hangByLoan nc C Q 9 [.ref (x0), .int (x1), .int (h.1 (x0 + 1) (x1 : Int32).toNatClampNeg), .int (0)] [] h) : lx_X1_hangByLoan nc C Q 0 [.ref (x0), .int (x1), tf_z, tf_z] [] h := by
  obtain ⟨Bx0, ⟨Kx0_1, Kx0_2, Kx0_3, Kx0_4, Kx0_5, Kx0_6, Kx0_7, Kx0_8, Kx0_9, Kx0_10, Kx0_11, Kx0_12, Kx0_13, Kx0_14⟩, ⟨Nx0_1, Nx0_2, Nx0_3, Nx0_4, Nx0_5, Nx0_6, Nx0_7, Nx0_8, Nx0_9, Nx0_10, Nx0_12, Nx0_13, Nx0_14⟩⟩ := tn_net Kx0_0
  refine tf_LW_go ?_
  show (tf_K x0 = 0 ∧ x0 < nc) ∧ (tf_K (tf_R x0 3) = 8 ∧ (tf_R x0 3) < nc ∧ vp_in x1 (tf_N (tf_R x0 3))) ∧ lx_X1_hangByLoan nc C Q 9 [.ref (x0), .int (x1), .int (h.1 (tf_R x0 3) (x1 : Int32).toNatClampNeg), .int (0)] [] h
  try simp only [(show tf_R x0 3 = x0 + 1 by rw [tn_R0 Kx0_0]; try omega), Nx0_1]
  exact ⟨⟨Kx0_0, (show x0 < nc by omega)⟩, ⟨⟨Kx0_1, (show x0 + 1 < nc by omega), q.1⟩, q.2⟩⟩
theorem en_X1_hangByLoan {nc d : Nat} {Q : tf_Q} {h : LH} (hn : 270 ≤ nc) {x0 : Nat} {x1 : Int32} (Kx0_0 : tf_K x0 = 0) (q : lx_X1_hangByLoan nc (tf_Cd nc d) Q 0 [.ref (x0), .int (x1), tf_z, tf_z] [] h) : tf_Cd nc (d + 1) 129 [.ref (x0), .int (x1)] h Q := by
  obtain ⟨Bx0, ⟨Kx0_1, Kx0_2, Kx0_3, Kx0_4, Kx0_5, Kx0_6, Kx0_7, Kx0_8, Kx0_9, Kx0_10, Kx0_11, Kx0_12, Kx0_13, Kx0_14⟩, ⟨Nx0_1, Nx0_2, Nx0_3, Nx0_4, Nx0_5, Nx0_6, Nx0_7, Nx0_8, Nx0_9, Nx0_10, Nx0_12, Nx0_13, Nx0_14⟩⟩ := tn_net Kx0_0
  exact ⟨⟨Nat.le_of_ble_eq_true rfl, Or.inr ⟨Kx0_0, (show x0 < nc by omega)⟩⟩, q⟩
set_option maxRecDepth 100000 in
theorem go_X1_hangByLoan_9 {nc : Nat} {C : tf_C} {Q : tf_Q} {h : LH} (hn : 270 ≤ nc) {x0 : Nat} {x1 : Int32} {x2 : Int32} {x3 : Int32} (Kx0_0 : tf_K x0 = 0) (q : ((h.1 x0 1) ≤ x3 → lx_X1_hangByLoan nc C Q 64 [.ref (x0), .int (x1), .int (x2), .int (x3)] [] h) ∧ (¬ (h.1 x0 1) ≤ x3 → (vp_in x3 21) ∧ ((h.1 (x0 + 3) (x3 : Int32).toNatClampNeg) = x1 → (vp_in x3 21) ∧ lx_X1_hangByLoan nc C Q 58 [.ref (x0), .int (x1), .int (x2 + (h.1 (x0 + 6) (x3 : Int32).toNatClampNeg)), .int (x3)] [] h) ∧ (¬ (h.1 (x0 + 3) (x3 : Int32).toNatClampNeg) = x1 → lx_X1_hangByLoan nc C Q 39 [.ref (x0), .int (x1), .int (x2), .int (x3)] [] h))) : lx_X1_hangByLoan nc C Q 9 [.ref (x0), .int (x1), .int (x2), .int (x3)] [] h := by
  obtain ⟨Bx0, ⟨Kx0_1, Kx0_2, Kx0_3, Kx0_4, Kx0_5, Kx0_6, Kx0_7, Kx0_8, Kx0_9, Kx0_10, Kx0_11, Kx0_12, Kx0_13, Kx0_14⟩, ⟨Nx0_1, Nx0_2, Nx0_3, Nx0_4, Nx0_5, Nx0_6, Nx0_7, Nx0_8, Nx0_9, Nx0_10, Nx0_12, Nx0_13, Nx0_14⟩⟩ := tn_net Kx0_0
  refine tf_LW_go ?_
  show (tf_K x0 = 0 ∧ x0 < nc) ∧ ((h.1 x0 1) ≤ x3 → lx_X1_hangByLoan nc C Q 64 [.ref (x0), .int (x1), .int (x2), .int (x3)] [] h) ∧ (¬ (h.1 x0 1) ≤ x3 → (tf_K x0 = 0 ∧ x0 < nc) ∧ (tf_K (tf_R x0 5) = 8 ∧ (tf_R x0 5) < nc ∧ vp_in x3 (tf_N (tf_R x0 5))) ∧ ((h.1 (tf_R x0 5) (x3 : Int32).toNatClampNeg) = x1 → (tf_K x0 = 0 ∧ x0 < nc) ∧ (tf_K (tf_R x0 8) = 8 ∧ (tf_R x0 8) < nc ∧ vp_in x3 (tf_N (tf_R x0 8))) ∧ lx_X1_hangByLoan nc C Q 58 [.ref (x0), .int (x1), .int (x2 + (h.1 (tf_R x0 8) (x3 : Int32).toNatClampNeg)), .int (x3)] [] h) ∧ (¬ (h.1 (tf_R x0 5) (x3 : Int32).toNatClampNeg) = x1 → lx_X1_hangByLoan nc C Q 39 [.ref (x0), .int (x1), .int (x2), .int (x3)] [] h))
  try simp only [(show tf_R x0 5 = x0 + 3 by rw [tn_R0 Kx0_0]; try omega), (show tf_R x0 8 = x0 + 6 by rw [tn_R0 Kx0_0]; try omega), Nx0_3, Nx0_6]
  exact ⟨⟨Kx0_0, (show x0 < nc by omega)⟩, ⟨q.1, fun c2 => ⟨⟨Kx0_0, (show x0 < nc by omega)⟩, ⟨⟨Kx0_3, (show x0 + 3 < nc by omega), (q.2 c2).1⟩, ⟨fun c1 => ⟨⟨Kx0_0, (show x0 < nc by omega)⟩, ⟨⟨Kx0_6, (show x0 + 6 < nc by omega), ((q.2 c2).2.1 c1).1⟩, ((q.2 c2).2.1 c1).2⟩⟩, (q.2 c2).2.2⟩⟩⟩⟩⟩
set_option maxRecDepth 100000 in
theorem go_X1_hangByLoan_39 {nc : Nat} {C : tf_C} {Q : tf_Q} {h : LH} (hn : 270 ≤ nc) {x0 : Nat} {x1 : Int32} {x2 : Int32} {x3 : Int32} (Kx0_0 : tf_K x0 = 0) (q : (vp_in x3 21) ∧ ((h.1 (x0 + 2) (x3 : Int32).toNatClampNeg) = x1 → (vp_in x3 21) ∧ lx_X1_hangByLoan nc C Q 58 [.ref (x0), .int (x1), .int (x2 - (h.1 (x0 + 6) (x3 : Int32).toNatClampNeg)), .int (x3)] [] h) ∧ (¬ (h.1 (x0 + 2) (x3 : Int32).toNatClampNeg) = x1 → lx_X1_hangByLoan nc C Q 58 [.ref (x0), .int (x1), .int (x2), .int (x3)] [] h)) : lx_X1_hangByLoan nc C Q 39 [.ref (x0), .int (x1), .int (x2), .int (x3)] [] h := by
  obtain ⟨Bx0, ⟨Kx0_1, Kx0_2, Kx0_3, Kx0_4, Kx0_5, Kx0_6, Kx0_7, Kx0_8, Kx0_9, Kx0_10, Kx0_11, Kx0_12, Kx0_13, Kx0_14⟩, ⟨Nx0_1, Nx0_2, Nx0_3, Nx0_4, Nx0_5, Nx0_6, Nx0_7, Nx0_8, Nx0_9, Nx0_10, Nx0_12, Nx0_13, Nx0_14⟩⟩ := tn_net Kx0_0
  refine tf_LW_go ?_
  show (tf_K x0 = 0 ∧ x0 < nc) ∧ (tf_K (tf_R x0 4) = 8 ∧ (tf_R x0 4) < nc ∧ vp_in x3 (tf_N (tf_R x0 4))) ∧ ((h.1 (tf_R x0 4) (x3 : Int32).toNatClampNeg) = x1 → (tf_K x0 = 0 ∧ x0 < nc) ∧ (tf_K (tf_R x0 8) = 8 ∧ (tf_R x0 8) < nc ∧ vp_in x3 (tf_N (tf_R x0 8))) ∧ lx_X1_hangByLoan nc C Q 58 [.ref (x0), .int (x1), .int (x2 - (h.1 (tf_R x0 8) (x3 : Int32).toNatClampNeg)), .int (x3)] [] h) ∧ (¬ (h.1 (tf_R x0 4) (x3 : Int32).toNatClampNeg) = x1 → lx_X1_hangByLoan nc C Q 58 [.ref (x0), .int (x1), .int (x2), .int (x3)] [] h)
  try simp only [(show tf_R x0 4 = x0 + 2 by rw [tn_R0 Kx0_0]; try omega), (show tf_R x0 8 = x0 + 6 by rw [tn_R0 Kx0_0]; try omega), Nx0_2, Nx0_6]
  exact ⟨⟨Kx0_0, (show x0 < nc by omega)⟩, ⟨⟨Kx0_2, (show x0 + 2 < nc by omega), q.1⟩, ⟨fun c1 => ⟨⟨Kx0_0, (show x0 < nc by omega)⟩, ⟨⟨Kx0_6, (show x0 + 6 < nc by omega), (q.2.1 c1).1⟩, (q.2.1 c1).2⟩⟩, q.2.2⟩⟩⟩
set_option maxRecDepth 100000 in
theorem go_X1_hangByLoan_58 {nc : Nat} {C : tf_C} {Q : tf_Q} {h : LH} (hn : 270 ≤ nc) {x0 : Nat} {x1 : Int32} {x2 : Int32} {x3 : Int32} (Kx0_0 : tf_K x0 = 0) (q : lx_X1_hangByLoan nc C Q 9 [.ref (x0), .int (x1), .int (x2), .int (x3 + 1)] [] h) : lx_X1_hangByLoan nc C Q 58 [.ref (x0), .int (x1), .int (x2), .int (x3)] [] h := by
  obtain ⟨Bx0, ⟨Kx0_1, Kx0_2, Kx0_3, Kx0_4, Kx0_5, Kx0_6, Kx0_7, Kx0_8, Kx0_9, Kx0_10, Kx0_11, Kx0_12, Kx0_13, Kx0_14⟩, ⟨Nx0_1, Nx0_2, Nx0_3, Nx0_4, Nx0_5, Nx0_6, Nx0_7, Nx0_8, Nx0_9, Nx0_10, Nx0_12, Nx0_13, Nx0_14⟩⟩ := tn_net Kx0_0
  refine tf_LW_go ?_
  exact q
set_option maxRecDepth 100000 in
theorem go_X1_hangByLoan_64 {nc : Nat} {C : tf_C} {Q : tf_Q} {h : LH} (hn : 270 ≤ nc) {x0 : Nat} {x1 : Int32} {x2 : Int32} {x3 : Int32} (Kx0_0 : tf_K x0 = 0) (q : (x2 < (0 : Int32) → lx_X1_hangByLoan nc C Q 82 [.ref (x0), .int (x1), .int (x2), .int (14 + x1)] [.int (14 + x1), .ref (x0 + 2)] h) ∧ (¬ x2 < (0 : Int32) → lx_X1_hangByLoan nc C Q 84 [.ref (x0), .int (x1), .int (x2), .int (14 + x1)] [.int (x1), .int (14 + x1), .ref (x0 + 2)] h)) : lx_X1_hangByLoan nc C Q 64 [.ref (x0), .int (x1), .int (x2), .int (x3)] [] h := by
  obtain ⟨Bx0, ⟨Kx0_1, Kx0_2, Kx0_3, Kx0_4, Kx0_5, Kx0_6, Kx0_7, Kx0_8, Kx0_9, Kx0_10, Kx0_11, Kx0_12, Kx0_13, Kx0_14⟩, ⟨Nx0_1, Nx0_2, Nx0_3, Nx0_4, Nx0_5, Nx0_6, Nx0_7, Nx0_8, Nx0_9, Nx0_10, Nx0_12, Nx0_13, Nx0_14⟩⟩ := tn_net Kx0_0
  refine tf_LW_go ?_
  show (tf_K x0 = 0 ∧ x0 < nc) ∧ (x2 < (0 : Int32) → lx_X1_hangByLoan nc C Q 82 [.ref (x0), .int (x1), .int (x2), .int (14 + x1)] [.int (14 + x1), .ref (tf_R x0 4)] h) ∧ (¬ x2 < (0 : Int32) → lx_X1_hangByLoan nc C Q 84 [.ref (x0), .int (x1), .int (x2), .int (14 + x1)] [.int (x1), .int (14 + x1), .ref (tf_R x0 4)] h)
  try simp only [(show tf_R x0 4 = x0 + 2 by rw [tn_R0 Kx0_0]; try omega), Nx0_2]
  exact ⟨⟨Kx0_0, (show x0 < nc by omega)⟩, ⟨q.1, fun c1 => (q.2 c1)⟩⟩
set_option maxRecDepth 100000 in
theorem go_X1_hangByLoan_82 {nc : Nat} {C : tf_C} {Q : tf_Q} {h : LH} (hn : 270 ≤ nc) {x0 : Nat} {x1 : Int32} {x2 : Int32} {x3 : Int32} {y0 ny0 : Nat} {y1 : Int32} (Kx0_0 : tf_K x0 = 0) (Ky0_0 : tf_K y0 = 8) (Ny0_0 : tf_N y0 = ny0) (By0 : y0 < nc) (q : lx_X1_hangByLoan nc C Q 84 [.ref (x0), .int (x1), .int (x2), .int (x3)] [.int (7), .int (y1), .ref (y0)] h) : lx_X1_hangByLoan nc C Q 82 [.ref (x0), .int (x1), .int (x2), .int (x3)] [.int (y1), .ref (y0)] h := by
  obtain ⟨Bx0, ⟨Kx0_1, Kx0_2, Kx0_3, Kx0_4, Kx0_5, Kx0_6, Kx0_7, Kx0_8, Kx0_9, Kx0_10, Kx0_11, Kx0_12, Kx0_13, Kx0_14⟩, ⟨Nx0_1, Nx0_2, Nx0_3, Nx0_4, Nx0_5, Nx0_6, Nx0_7, Nx0_8, Nx0_9, Nx0_10, Nx0_12, Nx0_13, Nx0_14⟩⟩ := tn_net Kx0_0
  refine tf_LW_go ?_
  show lx_X1_hangByLoan nc C Q 84 [.ref (x0), .int (x1), .int (x2), .int (x3)] [.int (7), .int (y1), .ref (y0)] h
  try simp only [Ny0_0]
  exact q
set_option maxRecDepth 100000 in
theorem go_X1_hangByLoan_84 {nc : Nat} {C : tf_C} {Q : tf_Q} {h : LH} (hn : 270 ≤ nc) {x0 : Nat} {x1 : Int32} {x2 : Int32} {x3 : Int32} {y0 ny0 : Nat} {y1 : Int32} {y2 : Int32} (Kx0_0 : tf_K x0 = 0) (Ky0_0 : tf_K y0 = 8) (Ny0_0 : tf_N y0 = ny0) (By0 : y0 < nc) (q : (vp_in y1 ny0) ∧ (x2 < (0 : Int32) → lx_X1_hangByLoan nc C Q 99 [.ref (x0), .int (x1), .int (x2), .int (x3)] [.int (x3), .ref (x0 + 3)] (tf_up h.1 y0 (y1 : Int32).toNatClampNeg y2, h.2)) ∧ (¬ x2 < (0 : Int32) → lx_X1_hangByLoan nc C Q 100 [.ref (x0), .int (x1), .int (x2), .int (x3)] [.int (7), .int (x3), .ref (x0 + 3)] (tf_up h.1 y0 (y1 : Int32).toNatClampNeg y2, h.2))) : lx_X1_hangByLoan nc C Q 84 [.ref (x0), .int (x1), .int (x2), .int (x3)] [.int (y2), .int (y1), .ref (y0)] h := by
  obtain ⟨Bx0, ⟨Kx0_1, Kx0_2, Kx0_3, Kx0_4, Kx0_5, Kx0_6, Kx0_7, Kx0_8, Kx0_9, Kx0_10, Kx0_11, Kx0_12, Kx0_13, Kx0_14⟩, ⟨Nx0_1, Nx0_2, Nx0_3, Nx0_4, Nx0_5, Nx0_6, Nx0_7, Nx0_8, Nx0_9, Nx0_10, Nx0_12, Nx0_13, Nx0_14⟩⟩ := tn_net Kx0_0
  refine tf_LW_go ?_
  show (tf_K y0 = 8 ∧ y0 < nc ∧ vp_in y1 (tf_N y0)) ∧ (tf_K x0 = 0 ∧ x0 < nc) ∧ (x2 < (0 : Int32) → lx_X1_hangByLoan nc C Q 99 [.ref (x0), .int (x1), .int (x2), .int (x3)] [.int (x3), .ref (tf_R x0 5)] (tf_up h.1 y0 (y1 : Int32).toNatClampNeg y2, h.2)) ∧ (¬ x2 < (0 : Int32) → lx_X1_hangByLoan nc C Q 100 [.ref (x0), .int (x1), .int (x2), .int (x3)] [.int (7), .int (x3), .ref (tf_R x0 5)] (tf_up h.1 y0 (y1 : Int32).toNatClampNeg y2, h.2))
  try simp only [(show tf_R x0 5 = x0 + 3 by rw [tn_R0 Kx0_0]; try omega), Nx0_3, Ny0_0]
  exact ⟨⟨Ky0_0, (show y0 < nc by omega), q.1⟩, ⟨⟨Kx0_0, (show x0 < nc by omega)⟩, ⟨q.2.1, fun c1 => (q.2.2 c1)⟩⟩⟩
set_option maxRecDepth 100000 in
theorem go_X1_hangByLoan_99 {nc : Nat} {C : tf_C} {Q : tf_Q} {h : LH} (hn : 270 ≤ nc) {x0 : Nat} {x1 : Int32} {x2 : Int32} {x3 : Int32} {y0 ny0 : Nat} {y1 : Int32} (Kx0_0 : tf_K x0 = 0) (Ky0_0 : tf_K y0 = 8) (Ny0_0 : tf_N y0 = ny0) (By0 : y0 < nc) (q : lx_X1_hangByLoan nc C Q 100 [.ref (x0), .int (x1), .int (x2), .int (x3)] [.int (x1), .int (y1), .ref (y0)] h) : lx_X1_hangByLoan nc C Q 99 [.ref (x0), .int (x1), .int (x2), .int (x3)] [.int (y1), .ref (y0)] h := by
  obtain ⟨Bx0, ⟨Kx0_1, Kx0_2, Kx0_3, Kx0_4, Kx0_5, Kx0_6, Kx0_7, Kx0_8, Kx0_9, Kx0_10, Kx0_11, Kx0_12, Kx0_13, Kx0_14⟩, ⟨Nx0_1, Nx0_2, Nx0_3, Nx0_4, Nx0_5, Nx0_6, Nx0_7, Nx0_8, Nx0_9, Nx0_10, Nx0_12, Nx0_13, Nx0_14⟩⟩ := tn_net Kx0_0
  refine tf_LW_go ?_
  show lx_X1_hangByLoan nc C Q 100 [.ref (x0), .int (x1), .int (x2), .int (x3)] [.int (x1), .int (y1), .ref (y0)] h
  try simp only [Ny0_0]
  exact q
set_option maxRecDepth 100000 in
theorem go_X1_hangByLoan_100 {nc : Nat} {C : tf_C} {Q : tf_Q} {h : LH} (hn : 270 ≤ nc) {x0 : Nat} {x1 : Int32} {x2 : Int32} {x3 : Int32} {y0 ny0 : Nat} {y1 : Int32} {y2 : Int32} (Kx0_0 : tf_K x0 = 0) (Ky0_0 : tf_K y0 = 8) (Ny0_0 : tf_N y0 = ny0) (By0 : y0 < nc) (q : (vp_in y1 ny0) ∧ (vp_in x3 21) ∧ C 1000 [.int (x2)] (tf_up (tf_up h.1 y0 (y1 : Int32).toNatClampNeg y2) (x0 + 5) (x3 : Int32).toNatClampNeg 10000, h.2) (fun r g => lx_X1_hangByLoan nc C Q 119 [.ref (x0), .int (x1), .int (x2), .int (x3)] (r :: [.int (x3), .ref (x0 + 6)]) g)) : lx_X1_hangByLoan nc C Q 100 [.ref (x0), .int (x1), .int (x2), .int (x3)] [.int (y2), .int (y1), .ref (y0)] h := by
  obtain ⟨Bx0, ⟨Kx0_1, Kx0_2, Kx0_3, Kx0_4, Kx0_5, Kx0_6, Kx0_7, Kx0_8, Kx0_9, Kx0_10, Kx0_11, Kx0_12, Kx0_13, Kx0_14⟩, ⟨Nx0_1, Nx0_2, Nx0_3, Nx0_4, Nx0_5, Nx0_6, Nx0_7, Nx0_8, Nx0_9, Nx0_10, Nx0_12, Nx0_13, Nx0_14⟩⟩ := tn_net Kx0_0
  refine tf_LW_go ?_
  show (tf_K y0 = 8 ∧ y0 < nc ∧ vp_in y1 (tf_N y0)) ∧ (tf_K x0 = 0 ∧ x0 < nc) ∧ (tf_K (tf_R x0 7) = 8 ∧ (tf_R x0 7) < nc ∧ vp_in x3 (tf_N (tf_R x0 7))) ∧ (tf_K x0 = 0 ∧ x0 < nc) ∧ 1 ≤ 3 ∧ 2 ≤ 8 ∧ C 1000 [.int (x2)] (tf_up (tf_up h.1 y0 (y1 : Int32).toNatClampNeg y2) (tf_R x0 7) (x3 : Int32).toNatClampNeg 10000, h.2) (fun r g => lx_X1_hangByLoan nc C Q 119 [.ref (x0), .int (x1), .int (x2), .int (x3)] (r :: [.int (x3), .ref (tf_R x0 8)]) g)
  try simp only [(show tf_R x0 7 = x0 + 5 by rw [tn_R0 Kx0_0]; try omega), (show tf_R x0 8 = x0 + 6 by rw [tn_R0 Kx0_0]; try omega), Nx0_5, Nx0_6, Ny0_0]
  exact ⟨⟨Ky0_0, (show y0 < nc by omega), q.1⟩, ⟨⟨Kx0_0, (show x0 < nc by omega)⟩, ⟨⟨Kx0_5, (show x0 + 5 < nc by omega), q.2.1⟩, ⟨⟨Kx0_0, (show x0 < nc by omega)⟩, ⟨Nat.le_of_ble_eq_true rfl, Nat.le_of_ble_eq_true rfl, q.2.2⟩⟩⟩⟩⟩
set_option maxRecDepth 100000 in
theorem go_X1_hangByLoan_119 {nc : Nat} {C : tf_C} {Q : tf_Q} {h : LH} (hn : 270 ≤ nc) {x0 : Nat} {x1 : Int32} {x2 : Int32} {x3 : Int32} {y0 ny0 : Nat} {y1 : Int32} {y2 : Int32} (Kx0_0 : tf_K x0 = 0) (Ky0_0 : tf_K y0 = 8) (Ny0_0 : tf_N y0 = ny0) (By0 : y0 < nc) (q : (vp_in y1 ny0) ∧ (vp_in x3 21) ∧ (vp_in x1 7) ∧ (vp_in x1 7) ∧ Q tf_z (tf_up (tf_up (tf_up (tf_up h.1 y0 (y1 : Int32).toNatClampNeg y2) (x0 + 7) (x3 : Int32).toNatClampNeg 2) (x0 + 8) (x1 : Int32).toNatClampNeg 7) (x0 + 9) (x1 : Int32).toNatClampNeg x3, h.2)) : lx_X1_hangByLoan nc C Q 119 [.ref (x0), .int (x1), .int (x2), .int (x3)] [.int (y2), .int (y1), .ref (y0)] h := by
  obtain ⟨Bx0, ⟨Kx0_1, Kx0_2, Kx0_3, Kx0_4, Kx0_5, Kx0_6, Kx0_7, Kx0_8, Kx0_9, Kx0_10, Kx0_11, Kx0_12, Kx0_13, Kx0_14⟩, ⟨Nx0_1, Nx0_2, Nx0_3, Nx0_4, Nx0_5, Nx0_6, Nx0_7, Nx0_8, Nx0_9, Nx0_10, Nx0_12, Nx0_13, Nx0_14⟩⟩ := tn_net Kx0_0
  refine tf_LW_go ?_
  show (tf_K y0 = 8 ∧ y0 < nc ∧ vp_in y1 (tf_N y0)) ∧ (tf_K x0 = 0 ∧ x0 < nc) ∧ (tf_K (tf_R x0 9) = 8 ∧ (tf_R x0 9) < nc ∧ vp_in x3 (tf_N (tf_R x0 9))) ∧ (tf_K x0 = 0 ∧ x0 < nc) ∧ (tf_K (tf_R x0 10) = 8 ∧ (tf_R x0 10) < nc ∧ vp_in x1 (tf_N (tf_R x0 10))) ∧ (tf_K x0 = 0 ∧ x0 < nc) ∧ (tf_K (tf_R x0 11) = 8 ∧ (tf_R x0 11) < nc ∧ vp_in x1 (tf_N (tf_R x0 11))) ∧ 0 = 0 ∧ Q tf_z (tf_up (tf_up (tf_up (tf_up h.1 y0 (y1 : Int32).toNatClampNeg y2) (tf_R x0 9) (x3 : Int32).toNatClampNeg 2) (tf_R x0 10) (x1 : Int32).toNatClampNeg 7) (tf_R x0 11) (x1 : Int32).toNatClampNeg x3, h.2)
  try simp only [(show tf_R x0 9 = x0 + 7 by rw [tn_R0 Kx0_0]; try omega), (show tf_R x0 10 = x0 + 8 by rw [tn_R0 Kx0_0]; try omega), (show tf_R x0 11 = x0 + 9 by rw [tn_R0 Kx0_0]; try omega), Nx0_7, Nx0_8, Nx0_9, Ny0_0]
  exact ⟨⟨Ky0_0, (show y0 < nc by omega), q.1⟩, ⟨⟨Kx0_0, (show x0 < nc by omega)⟩, ⟨⟨Kx0_7, (show x0 + 7 < nc by omega), q.2.1⟩, ⟨⟨Kx0_0, (show x0 < nc by omega)⟩, ⟨⟨Kx0_8, (show x0 + 8 < nc by omega), q.2.2.1⟩, ⟨⟨Kx0_0, (show x0 < nc by omega)⟩, ⟨⟨Kx0_9, (show x0 + 9 < nc by omega), q.2.2.2.1⟩, ⟨(by first | rfl | trivial), q.2.2.2.2⟩⟩⟩⟩⟩⟩⟩⟩
abbrev lx_X1_setPrices (nc : Nat) (C : tf_C) (Q : tf_Q) : tf_X := tf_LW nc C (tf_F 0) (tf_M 0) (tf_I 0) (tf_Eh 130) 0 tb_X1_setPrices Q
set_option maxRecDepth 100000 in
theorem go_X1_setPrices_0 {nc : Nat} {C : tf_C} {Q : tf_Q} {h : LH} (hn : 270 ≤ nc) {x0 : Nat} (Kx0_0 : tf_K x0 = 0) (q : lx_X1_setPrices nc C Q 10 [.ref (x0), .int (0), tf_z, tf_z, tf_z, tf_z] [] (tf_up h.1 (x0 + 10) (7 : Int32).toNatClampNeg 0, h.2)) : lx_X1_setPrices nc C Q 0 [.ref (x0), tf_z, tf_z, tf_z, tf_z, tf_z] [] h := by
  obtain ⟨Bx0, ⟨Kx0_1, Kx0_2, Kx0_3, Kx0_4, Kx0_5, Kx0_6, Kx0_7, Kx0_8, Kx0_9, Kx0_10, Kx0_11, Kx0_12, Kx0_13, Kx0_14⟩, ⟨Nx0_1, Nx0_2, Nx0_3, Nx0_4, Nx0_5, Nx0_6, Nx0_7, Nx0_8, Nx0_9, Nx0_10, Nx0_12, Nx0_13, Nx0_14⟩⟩ := tn_net Kx0_0
  refine tf_LW_go ?_
  show (tf_K x0 = 0 ∧ x0 < nc) ∧ (tf_K (tf_R x0 12) = 8 ∧ (tf_R x0 12) < nc ∧ vp_in 7 (tf_N (tf_R x0 12))) ∧ lx_X1_setPrices nc C Q 10 [.ref (x0), .int (0), tf_z, tf_z, tf_z, tf_z] [] (tf_up h.1 (tf_R x0 12) (7 : Int32).toNatClampNeg 0, h.2)
  try simp only [(show tf_R x0 12 = x0 + 10 by rw [tn_R0 Kx0_0]; try omega), Nx0_10]
  exact ⟨⟨Kx0_0, (show x0 < nc by omega)⟩, ⟨⟨Kx0_10, (show x0 + 10 < nc by omega), (vp_in_iff.mpr (by decide))⟩, q⟩⟩
theorem en_X1_setPrices {nc d : Nat} {Q : tf_Q} {h : LH} (hn : 270 ≤ nc) {x0 : Nat} (Kx0_0 : tf_K x0 = 0) (q : lx_X1_setPrices nc (tf_Cd nc d) Q 0 [.ref (x0), tf_z, tf_z, tf_z, tf_z, tf_z] [] h) : tf_Cd nc (d + 1) 130 [.ref (x0)] h Q := by
  obtain ⟨Bx0, ⟨Kx0_1, Kx0_2, Kx0_3, Kx0_4, Kx0_5, Kx0_6, Kx0_7, Kx0_8, Kx0_9, Kx0_10, Kx0_11, Kx0_12, Kx0_13, Kx0_14⟩, ⟨Nx0_1, Nx0_2, Nx0_3, Nx0_4, Nx0_5, Nx0_6, Nx0_7, Nx0_8, Nx0_9, Nx0_10, Nx0_12, Nx0_13, Nx0_14⟩⟩ := tn_net Kx0_0
  exact ⟨⟨Nat.le_of_ble_eq_true rfl, Or.inr ⟨Kx0_0, (show x0 < nc by omega)⟩⟩, q⟩
set_option maxRecDepth 100000 in
theorem go_X1_setPrices_10 {nc : Nat} {C : tf_C} {Q : tf_Q} {h : LH} (hn : 270 ≤ nc) {x0 : Nat} {x1 : Int32} {x2 : Value} {x3 : Value} {x4 : Value} {x5 : Value} (Kx0_0 : tf_K x0 = 0) (q : ((h.1 x0 0) ≤ x1 → lx_X1_setPrices nc C Q 106 [.ref (x0), .int (x1), x2, x3, x4, x5] [] h) ∧ (¬ (h.1 x0 0) ≤ x1 → lx_X1_setPrices nc C Q 25 [.ref (x0), .int (x1), .int (0), .int (x1), .int (0), x5] [] h)) : lx_X1_setPrices nc C Q 10 [.ref (x0), .int (x1), x2, x3, x4, x5] [] h := by
  obtain ⟨Bx0, ⟨Kx0_1, Kx0_2, Kx0_3, Kx0_4, Kx0_5, Kx0_6, Kx0_7, Kx0_8, Kx0_9, Kx0_10, Kx0_11, Kx0_12, Kx0_13, Kx0_14⟩, ⟨Nx0_1, Nx0_2, Nx0_3, Nx0_4, Nx0_5, Nx0_6, Nx0_7, Nx0_8, Nx0_9, Nx0_10, Nx0_12, Nx0_13, Nx0_14⟩⟩ := tn_net Kx0_0
  refine tf_LW_go ?_
  exact ⟨⟨Kx0_0, (show x0 < nc by omega)⟩, ⟨q.1, fun c1 => (q.2 c1)⟩⟩
set_option maxRecDepth 100000 in
theorem go_X1_setPrices_25 {nc : Nat} {C : tf_C} {Q : tf_Q} {h : LH} (hn : 270 ≤ nc) {x0 : Nat} {x1 : Int32} {x2 : Int32} {x3 : Int32} {x4 : Int32} {x5 : Value} (Kx0_0 : tf_K x0 = 0) (q : ((h.1 x0 0) ≤ x4 → lx_X1_setPrices nc C Q 93 [.ref (x0), .int (x1), .int (x2), .int (x3), .int (x4), x5] [] h) ∧ (¬ (h.1 x0 0) ≤ x4 → (x3 = (7 : Int32) → lx_X1_setPrices nc C Q 93 [.ref (x0), .int (x1), .int (x2), .int (x3), .int (x4), x5] [] h) ∧ (¬ x3 = (7 : Int32) → (vp_in x3 7) ∧ (vp_in (h.1 (x0 + 9) (x3 : Int32).toNatClampNeg) 21) ∧ ((h.1 (x0 + 2) (h.1 (x0 + 9) (x3 : Int32).toNatClampNeg : Int32).toNatClampNeg) = x3 → (vp_in (h.1 (x0 + 9) (x3 : Int32).toNatClampNeg) 21) ∧ lx_X1_setPrices nc C Q 78 [.ref (x0), .int (x1), .int (x2), .int (x3), .int (x4), .int (h.1 (x0 + 9) (x3 : Int32).toNatClampNeg)] [.int (-(h.1 (x0 + 5) (h.1 (x0 + 9) (x3 : Int32).toNatClampNeg : Int32).toNatClampNeg)), .int (x2)] h) ∧ (¬ (h.1 (x0 + 2) (h.1 (x0 + 9) (x3 : Int32).toNatClampNeg : Int32).toNatClampNeg) = x3 → lx_X1_setPrices nc C Q 71 [.ref (x0), .int (x1), .int (x2), .int (x3), .int (x4), .int (h.1 (x0 + 9) (x3 : Int32).toNatClampNeg)] [.int (x2)] h)))) : lx_X1_setPrices nc C Q 25 [.ref (x0), .int (x1), .int (x2), .int (x3), .int (x4), x5] [] h := by
  obtain ⟨Bx0, ⟨Kx0_1, Kx0_2, Kx0_3, Kx0_4, Kx0_5, Kx0_6, Kx0_7, Kx0_8, Kx0_9, Kx0_10, Kx0_11, Kx0_12, Kx0_13, Kx0_14⟩, ⟨Nx0_1, Nx0_2, Nx0_3, Nx0_4, Nx0_5, Nx0_6, Nx0_7, Nx0_8, Nx0_9, Nx0_10, Nx0_12, Nx0_13, Nx0_14⟩⟩ := tn_net Kx0_0
  refine tf_LW_go ?_
  show (tf_K x0 = 0 ∧ x0 < nc) ∧ ((h.1 x0 0) ≤ x4 → lx_X1_setPrices nc C Q 93 [.ref (x0), .int (x1), .int (x2), .int (x3), .int (x4), x5] [] h) ∧ (¬ (h.1 x0 0) ≤ x4 → (x3 = (7 : Int32) → lx_X1_setPrices nc C Q 93 [.ref (x0), .int (x1), .int (x2), .int (x3), .int (x4), x5] [] h) ∧ (¬ x3 = (7 : Int32) → (tf_K x0 = 0 ∧ x0 < nc) ∧ (tf_K (tf_R x0 11) = 8 ∧ (tf_R x0 11) < nc ∧ vp_in x3 (tf_N (tf_R x0 11))) ∧ (tf_K x0 = 0 ∧ x0 < nc) ∧ (tf_K (tf_R x0 4) = 8 ∧ (tf_R x0 4) < nc ∧ vp_in (h.1 (tf_R x0 11) (x3 : Int32).toNatClampNeg) (tf_N (tf_R x0 4))) ∧ ((h.1 (tf_R x0 4) (h.1 (tf_R x0 11) (x3 : Int32).toNatClampNeg : Int32).toNatClampNeg) = x3 → (tf_K x0 = 0 ∧ x0 < nc) ∧ (tf_K (tf_R x0 7) = 8 ∧ (tf_R x0 7) < nc ∧ vp_in (h.1 (tf_R x0 11) (x3 : Int32).toNatClampNeg) (tf_N (tf_R x0 7))) ∧ lx_X1_setPrices nc C Q 78 [.ref (x0), .int (x1), .int (x2), .int (x3), .int (x4), .int (h.1 (tf_R x0 11) (x3 : Int32).toNatClampNeg)] [.int (-(h.1 (tf_R x0 7) (h.1 (tf_R x0 11) (x3 : Int32).toNatClampNeg : Int32).toNatClampNeg)), .int (x2)] h) ∧ (¬ (h.1 (tf_R x0 4) (h.1 (tf_R x0 11) (x3 : Int32).toNatClampNeg : Int32).toNatClampNeg) = x3 → lx_X1_setPrices nc C Q 71 [.ref (x0), .int (x1), .int (x2), .int (x3), .int (x4), .int (h.1 (tf_R x0 11) (x3 : Int32).toNatClampNeg)] [.int (x2)] h)))
  try simp only [(show tf_R x0 4 = x0 + 2 by rw [tn_R0 Kx0_0]; try omega), (show tf_R x0 7 = x0 + 5 by rw [tn_R0 Kx0_0]; try omega), (show tf_R x0 11 = x0 + 9 by rw [tn_R0 Kx0_0]; try omega), Nx0_2, Nx0_5, Nx0_9]
  exact ⟨⟨Kx0_0, (show x0 < nc by omega)⟩, ⟨q.1, fun c3 => ⟨(q.2 c3).1, fun c2 => ⟨⟨Kx0_0, (show x0 < nc by omega)⟩, ⟨⟨Kx0_9, (show x0 + 9 < nc by omega), ((q.2 c3).2 c2).1⟩, ⟨⟨Kx0_0, (show x0 < nc by omega)⟩, ⟨⟨Kx0_2, (show x0 + 2 < nc by omega), ((q.2 c3).2 c2).2.1⟩, ⟨fun c1 => ⟨⟨Kx0_0, (show x0 < nc by omega)⟩, ⟨⟨Kx0_5, (show x0 + 5 < nc by omega), (((q.2 c3).2 c2).2.2.1 c1).1⟩, (((q.2 c3).2 c2).2.2.1 c1).2⟩⟩, ((q.2 c3).2 c2).2.2.2⟩⟩⟩⟩⟩⟩⟩⟩
set_option maxRecDepth 100000 in
theorem go_X1_setPrices_71 {nc : Nat} {C : tf_C} {Q : tf_Q} {h : LH} (hn : 270 ≤ nc) {x0 : Nat} {x1 : Int32} {x2 : Int32} {x3 : Int32} {x4 : Int32} {x5 : Int32} {y0 : Int32} (Kx0_0 : tf_K x0 = 0) (q : (vp_in x5 21) ∧ lx_X1_setPrices nc C Q 78 [.ref (x0), .int (x1), .int (x2), .int (x3), .int (x4), .int (x5)] [.int (h.1 (x0 + 5) (x5 : Int32).toNatClampNeg), .int (y0)] h) : lx_X1_setPrices nc C Q 71 [.ref (x0), .int (x1), .int (x2), .int (x3), .int (x4), .int (x5)] [.int (y0)] h := by
  obtain ⟨Bx0, ⟨Kx0_1, Kx0_2, Kx0_3, Kx0_4, Kx0_5, Kx0_6, Kx0_7, Kx0_8, Kx0_9, Kx0_10, Kx0_11, Kx0_12, Kx0_13, Kx0_14⟩, ⟨Nx0_1, Nx0_2, Nx0_3, Nx0_4, Nx0_5, Nx0_6, Nx0_7, Nx0_8, Nx0_9, Nx0_10, Nx0_12, Nx0_13, Nx0_14⟩⟩ := tn_net Kx0_0
  refine tf_LW_go ?_
  show (tf_K x0 = 0 ∧ x0 < nc) ∧ (tf_K (tf_R x0 7) = 8 ∧ (tf_R x0 7) < nc ∧ vp_in x5 (tf_N (tf_R x0 7))) ∧ lx_X1_setPrices nc C Q 78 [.ref (x0), .int (x1), .int (x2), .int (x3), .int (x4), .int (x5)] [.int (h.1 (tf_R x0 7) (x5 : Int32).toNatClampNeg), .int (y0)] h
  try simp only [(show tf_R x0 7 = x0 + 5 by rw [tn_R0 Kx0_0]; try omega), Nx0_5]
  exact ⟨⟨Kx0_0, (show x0 < nc by omega)⟩, ⟨⟨Kx0_5, (show x0 + 5 < nc by omega), q.1⟩, q.2⟩⟩
set_option maxRecDepth 100000 in
theorem go_X1_setPrices_78 {nc : Nat} {C : tf_C} {Q : tf_Q} {h : LH} (hn : 270 ≤ nc) {x0 : Nat} {x1 : Int32} {x2 : Int32} {x3 : Int32} {x4 : Int32} {x5 : Int32} {y0 : Int32} {y1 : Int32} (Kx0_0 : tf_K x0 = 0) (q : (vp_in x3 7) ∧ lx_X1_setPrices nc C Q 25 [.ref (x0), .int (x1), .int (y0 + y1), .int (h.1 (x0 + 8) (x3 : Int32).toNatClampNeg), .int (x4 + 1), .int (x5)] [] h) : lx_X1_setPrices nc C Q 78 [.ref (x0), .int (x1), .int (x2), .int (x3), .int (x4), .int (x5)] [.int (y1), .int (y0)] h := by
  obtain ⟨Bx0, ⟨Kx0_1, Kx0_2, Kx0_3, Kx0_4, Kx0_5, Kx0_6, Kx0_7, Kx0_8, Kx0_9, Kx0_10, Kx0_11, Kx0_12, Kx0_13, Kx0_14⟩, ⟨Nx0_1, Nx0_2, Nx0_3, Nx0_4, Nx0_5, Nx0_6, Nx0_7, Nx0_8, Nx0_9, Nx0_10, Nx0_12, Nx0_13, Nx0_14⟩⟩ := tn_net Kx0_0
  refine tf_LW_go ?_
  show (tf_K x0 = 0 ∧ x0 < nc) ∧ (tf_K (tf_R x0 10) = 8 ∧ (tf_R x0 10) < nc ∧ vp_in x3 (tf_N (tf_R x0 10))) ∧ lx_X1_setPrices nc C Q 25 [.ref (x0), .int (x1), .int (y0 + y1), .int (h.1 (tf_R x0 10) (x3 : Int32).toNatClampNeg), .int (x4 + 1), .int (x5)] [] h
  try simp only [(show tf_R x0 10 = x0 + 8 by rw [tn_R0 Kx0_0]; try omega), Nx0_8]
  exact ⟨⟨Kx0_0, (show x0 < nc by omega)⟩, ⟨⟨Kx0_8, (show x0 + 8 < nc by omega), q.1⟩, q.2⟩⟩
set_option maxRecDepth 100000 in
theorem go_X1_setPrices_93 {nc : Nat} {C : tf_C} {Q : tf_Q} {h : LH} (hn : 270 ≤ nc) {x0 : Nat} {x1 : Int32} {x2 : Int32} {x3 : Int32} {x4 : Int32} {x5 : Value} (Kx0_0 : tf_K x0 = 0) (q : (vp_in x1 8) ∧ lx_X1_setPrices nc C Q 10 [.ref (x0), .int (x1 + 1), .int (x2), .int (x3), .int (x4), x5] [] (tf_up h.1 (x0 + 10) (x1 : Int32).toNatClampNeg x2, h.2)) : lx_X1_setPrices nc C Q 93 [.ref (x0), .int (x1), .int (x2), .int (x3), .int (x4), x5] [] h := by
  obtain ⟨Bx0, ⟨Kx0_1, Kx0_2, Kx0_3, Kx0_4, Kx0_5, Kx0_6, Kx0_7, Kx0_8, Kx0_9, Kx0_10, Kx0_11, Kx0_12, Kx0_13, Kx0_14⟩, ⟨Nx0_1, Nx0_2, Nx0_3, Nx0_4, Nx0_5, Nx0_6, Nx0_7, Nx0_8, Nx0_9, Nx0_10, Nx0_12, Nx0_13, Nx0_14⟩⟩ := tn_net Kx0_0
  refine tf_LW_go ?_
  show (tf_K x0 = 0 ∧ x0 < nc) ∧ (tf_K (tf_R x0 12) = 8 ∧ (tf_R x0 12) < nc ∧ vp_in x1 (tf_N (tf_R x0 12))) ∧ lx_X1_setPrices nc C Q 10 [.ref (x0), .int (x1 + 1), .int (x2), .int (x3), .int (x4), x5] [] (tf_up h.1 (tf_R x0 12) (x1 : Int32).toNatClampNeg x2, h.2)
  try simp only [(show tf_R x0 12 = x0 + 10 by rw [tn_R0 Kx0_0]; try omega), Nx0_10]
  exact ⟨⟨Kx0_0, (show x0 < nc by omega)⟩, ⟨⟨Kx0_10, (show x0 + 10 < nc by omega), q.1⟩, q.2⟩⟩
set_option maxRecDepth 100000 in
theorem go_X1_setPrices_106 {nc : Nat} {C : tf_C} {Q : tf_Q} {h : LH} (hn : 270 ≤ nc) {x0 : Nat} {x1 : Int32} {x2 : Value} {x3 : Value} {x4 : Value} {x5 : Value} (Kx0_0 : tf_K x0 = 0) (q : Q tf_z h) : lx_X1_setPrices nc C Q 106 [.ref (x0), .int (x1), x2, x3, x4, x5] [] h := by
  obtain ⟨Bx0, ⟨Kx0_1, Kx0_2, Kx0_3, Kx0_4, Kx0_5, Kx0_6, Kx0_7, Kx0_8, Kx0_9, Kx0_10, Kx0_11, Kx0_12, Kx0_13, Kx0_14⟩, ⟨Nx0_1, Nx0_2, Nx0_3, Nx0_4, Nx0_5, Nx0_6, Nx0_7, Nx0_8, Nx0_9, Nx0_10, Nx0_12, Nx0_13, Nx0_14⟩⟩ := tn_net Kx0_0
  refine tf_LW_go ?_
  exact ⟨(by first | rfl | trivial), q⟩
abbrev lx_X1_reduced (nc : Nat) (C : tf_C) (Q : tf_Q) : tf_X := tf_LW nc C (tf_F 0) (tf_M 0) (tf_I 0) (tf_Eh 131) 1 tb_X1_reduced Q
set_option maxRecDepth 100000 in
theorem go_X1_reduced_0 {nc : Nat} {C : tf_C} {Q : tf_Q} {h : LH} (hn : 270 ≤ nc) {x0 : Nat} {x1 : Int32} (Kx0_0 : tf_K x0 = 0) (q : (vp_in x1 21) ∧ (vp_in x1 21) ∧ (vp_in (h.1 (x0 + 2) (x1 : Int32).toNatClampNeg) 8) ∧ (vp_in x1 21) ∧ (vp_in (h.1 (x0 + 3) (x1 : Int32).toNatClampNeg) 8) ∧ Q (.int (((h.1 (x0 + 5) (x1 : Int32).toNatClampNeg) + (h.1 (x0 + 10) (h.1 (x0 + 2) (x1 : Int32).toNatClampNeg : Int32).toNatClampNeg)) - (h.1 (x0 + 10) (h.1 (x0 + 3) (x1 : Int32).toNatClampNeg : Int32).toNatClampNeg))) h) : lx_X1_reduced nc C Q 0 [.ref (x0), .int (x1)] [] h := by
  obtain ⟨Bx0, ⟨Kx0_1, Kx0_2, Kx0_3, Kx0_4, Kx0_5, Kx0_6, Kx0_7, Kx0_8, Kx0_9, Kx0_10, Kx0_11, Kx0_12, Kx0_13, Kx0_14⟩, ⟨Nx0_1, Nx0_2, Nx0_3, Nx0_4, Nx0_5, Nx0_6, Nx0_7, Nx0_8, Nx0_9, Nx0_10, Nx0_12, Nx0_13, Nx0_14⟩⟩ := tn_net Kx0_0
  refine tf_LW_go ?_
  show (tf_K x0 = 0 ∧ x0 < nc) ∧ (tf_K (tf_R x0 7) = 8 ∧ (tf_R x0 7) < nc ∧ vp_in x1 (tf_N (tf_R x0 7))) ∧ (tf_K x0 = 0 ∧ x0 < nc) ∧ (tf_K x0 = 0 ∧ x0 < nc) ∧ (tf_K (tf_R x0 4) = 8 ∧ (tf_R x0 4) < nc ∧ vp_in x1 (tf_N (tf_R x0 4))) ∧ (tf_K (tf_R x0 12) = 8 ∧ (tf_R x0 12) < nc ∧ vp_in (h.1 (tf_R x0 4) (x1 : Int32).toNatClampNeg) (tf_N (tf_R x0 12))) ∧ (tf_K x0 = 0 ∧ x0 < nc) ∧ (tf_K x0 = 0 ∧ x0 < nc) ∧ (tf_K (tf_R x0 5) = 8 ∧ (tf_R x0 5) < nc ∧ vp_in x1 (tf_N (tf_R x0 5))) ∧ (tf_K (tf_R x0 12) = 8 ∧ (tf_R x0 12) < nc ∧ vp_in (h.1 (tf_R x0 5) (x1 : Int32).toNatClampNeg) (tf_N (tf_R x0 12))) ∧ tf_rb 1 (((h.1 (tf_R x0 7) (x1 : Int32).toNatClampNeg) + (h.1 (tf_R x0 12) (h.1 (tf_R x0 4) (x1 : Int32).toNatClampNeg : Int32).toNatClampNeg)) - (h.1 (tf_R x0 12) (h.1 (tf_R x0 5) (x1 : Int32).toNatClampNeg : Int32).toNatClampNeg)) ∧ Q (.int (((h.1 (tf_R x0 7) (x1 : Int32).toNatClampNeg) + (h.1 (tf_R x0 12) (h.1 (tf_R x0 4) (x1 : Int32).toNatClampNeg : Int32).toNatClampNeg)) - (h.1 (tf_R x0 12) (h.1 (tf_R x0 5) (x1 : Int32).toNatClampNeg : Int32).toNatClampNeg))) h
  try simp only [(show tf_R x0 4 = x0 + 2 by rw [tn_R0 Kx0_0]; try omega), (show tf_R x0 5 = x0 + 3 by rw [tn_R0 Kx0_0]; try omega), (show tf_R x0 7 = x0 + 5 by rw [tn_R0 Kx0_0]; try omega), (show tf_R x0 12 = x0 + 10 by rw [tn_R0 Kx0_0]; try omega), Nx0_2, Nx0_3, Nx0_5, Nx0_10]
  exact ⟨⟨Kx0_0, (show x0 < nc by omega)⟩, ⟨⟨Kx0_5, (show x0 + 5 < nc by omega), q.1⟩, ⟨⟨Kx0_0, (show x0 < nc by omega)⟩, ⟨⟨Kx0_0, (show x0 < nc by omega)⟩, ⟨⟨Kx0_2, (show x0 + 2 < nc by omega), q.2.1⟩, ⟨⟨Kx0_10, (show x0 + 10 < nc by omega), q.2.2.1⟩, ⟨⟨Kx0_0, (show x0 < nc by omega)⟩, ⟨⟨Kx0_0, (show x0 < nc by omega)⟩, ⟨⟨Kx0_3, (show x0 + 3 < nc by omega), q.2.2.2.1⟩, ⟨⟨Kx0_10, (show x0 + 10 < nc by omega), q.2.2.2.2.1⟩, ⟨(by first | trivial | rfl), q.2.2.2.2.2⟩⟩⟩⟩⟩⟩⟩⟩⟩⟩⟩
theorem en_X1_reduced {nc d : Nat} {Q : tf_Q} {h : LH} (hn : 270 ≤ nc) {x0 : Nat} {x1 : Int32} (Kx0_0 : tf_K x0 = 0) (q : lx_X1_reduced nc (tf_Cd nc d) Q 0 [.ref (x0), .int (x1)] [] h) : tf_Cd nc (d + 1) 131 [.ref (x0), .int (x1)] h Q := by
  obtain ⟨Bx0, ⟨Kx0_1, Kx0_2, Kx0_3, Kx0_4, Kx0_5, Kx0_6, Kx0_7, Kx0_8, Kx0_9, Kx0_10, Kx0_11, Kx0_12, Kx0_13, Kx0_14⟩, ⟨Nx0_1, Nx0_2, Nx0_3, Nx0_4, Nx0_5, Nx0_6, Nx0_7, Nx0_8, Nx0_9, Nx0_10, Nx0_12, Nx0_13, Nx0_14⟩⟩ := tn_net Kx0_0
  exact ⟨⟨Nat.le_of_ble_eq_true rfl, Or.inr ⟨Kx0_0, (show x0 < nc by omega)⟩⟩, q⟩
abbrev lx_X1_mayOffer (nc : Nat) (C : tf_C) (Q : tf_Q) : tf_X := tf_LW nc C (tf_F 0) (tf_M 0) (tf_I 0) (tf_Eh 132) 2 tb_X1_mayOffer Q
set_option maxRecDepth 100000 in
theorem go_X1_mayOffer_0 {nc : Nat} {C : tf_C} {Q : tf_Q} {h : LH} (hn : 270 ≤ nc) {x0 : Nat} {x1 : Int32} (Kx0_0 : tf_K x0 = 0) (q : (vp_in x1 21) ∧ ((h.1 (x0 + 7) (x1 : Int32).toNatClampNeg) = (0 : Int32) → lx_X1_mayOffer nc C Q 19 [.ref (x0), .int (x1)] [] h) ∧ (¬ (h.1 (x0 + 7) (x1 : Int32).toNatClampNeg) = (0 : Int32) → (vp_in x1 21) ∧ ((h.1 (x0 + 7) (x1 : Int32).toNatClampNeg) = (1 : Int32) → lx_X1_mayOffer nc C Q 19 [.ref (x0), .int (x1)] [] h) ∧ (¬ (h.1 (x0 + 7) (x1 : Int32).toNatClampNeg) = (1 : Int32) → lx_X1_mayOffer nc C Q 32 [.ref (x0), .int (x1)] [] h))) : lx_X1_mayOffer nc C Q 0 [.ref (x0), .int (x1)] [] h := by
  obtain ⟨Bx0, ⟨Kx0_1, Kx0_2, Kx0_3, Kx0_4, Kx0_5, Kx0_6, Kx0_7, Kx0_8, Kx0_9, Kx0_10, Kx0_11, Kx0_12, Kx0_13, Kx0_14⟩, ⟨Nx0_1, Nx0_2, Nx0_3, Nx0_4, Nx0_5, Nx0_6, Nx0_7, Nx0_8, Nx0_9, Nx0_10, Nx0_12, Nx0_13, Nx0_14⟩⟩ := tn_net Kx0_0
  refine tf_LW_go ?_
  show (tf_K x0 = 0 ∧ x0 < nc) ∧ (tf_K (tf_R x0 9) = 8 ∧ (tf_R x0 9) < nc ∧ vp_in x1 (tf_N (tf_R x0 9))) ∧ ((h.1 (tf_R x0 9) (x1 : Int32).toNatClampNeg) = (0 : Int32) → lx_X1_mayOffer nc C Q 19 [.ref (x0), .int (x1)] [] h) ∧ (¬ (h.1 (tf_R x0 9) (x1 : Int32).toNatClampNeg) = (0 : Int32) → (tf_K x0 = 0 ∧ x0 < nc) ∧ (tf_K (tf_R x0 9) = 8 ∧ (tf_R x0 9) < nc ∧ vp_in x1 (tf_N (tf_R x0 9))) ∧ ((h.1 (tf_R x0 9) (x1 : Int32).toNatClampNeg) = (1 : Int32) → lx_X1_mayOffer nc C Q 19 [.ref (x0), .int (x1)] [] h) ∧ (¬ (h.1 (tf_R x0 9) (x1 : Int32).toNatClampNeg) = (1 : Int32) → lx_X1_mayOffer nc C Q 32 [.ref (x0), .int (x1)] [] h))
  try simp only [(show tf_R x0 9 = x0 + 7 by rw [tn_R0 Kx0_0]; try omega), Nx0_7]
  exact ⟨⟨Kx0_0, (show x0 < nc by omega)⟩, ⟨⟨Kx0_7, (show x0 + 7 < nc by omega), q.1⟩, ⟨q.2.1, fun c2 => ⟨⟨Kx0_0, (show x0 < nc by omega)⟩, ⟨⟨Kx0_7, (show x0 + 7 < nc by omega), (q.2.2 c2).1⟩, ⟨fun c1 => ((q.2.2 c2).2.1 c1), (q.2.2 c2).2.2⟩⟩⟩⟩⟩⟩
theorem en_X1_mayOffer {nc d : Nat} {Q : tf_Q} {h : LH} (hn : 270 ≤ nc) {x0 : Nat} {x1 : Int32} (Kx0_0 : tf_K x0 = 0) (q : lx_X1_mayOffer nc (tf_Cd nc d) Q 0 [.ref (x0), .int (x1)] [] h) : tf_Cd nc (d + 1) 132 [.ref (x0), .int (x1)] h Q := by
  obtain ⟨Bx0, ⟨Kx0_1, Kx0_2, Kx0_3, Kx0_4, Kx0_5, Kx0_6, Kx0_7, Kx0_8, Kx0_9, Kx0_10, Kx0_11, Kx0_12, Kx0_13, Kx0_14⟩, ⟨Nx0_1, Nx0_2, Nx0_3, Nx0_4, Nx0_5, Nx0_6, Nx0_7, Nx0_8, Nx0_9, Nx0_10, Nx0_12, Nx0_13, Nx0_14⟩⟩ := tn_net Kx0_0
  exact ⟨⟨Nat.le_of_ble_eq_true rfl, Or.inr ⟨Kx0_0, (show x0 < nc by omega)⟩⟩, q⟩
set_option maxRecDepth 100000 in
theorem go_X1_mayOffer_19 {nc : Nat} {C : tf_C} {Q : tf_Q} {h : LH} (hn : 270 ≤ nc) {x0 : Nat} {x1 : Int32} (Kx0_0 : tf_K x0 = 0) (q : (vp_in x1 21) ∧ ((h.1 (x0 + 4) (x1 : Int32).toNatClampNeg) ≤ (0 : Int32) → lx_X1_mayOffer nc C Q 32 [.ref (x0), .int (x1)] [] h) ∧ (¬ (h.1 (x0 + 4) (x1 : Int32).toNatClampNeg) ≤ (0 : Int32) → lx_X1_mayOffer nc C Q 33 [.ref (x0), .int (x1)] [.int (1)] h)) : lx_X1_mayOffer nc C Q 19 [.ref (x0), .int (x1)] [] h := by
  obtain ⟨Bx0, ⟨Kx0_1, Kx0_2, Kx0_3, Kx0_4, Kx0_5, Kx0_6, Kx0_7, Kx0_8, Kx0_9, Kx0_10, Kx0_11, Kx0_12, Kx0_13, Kx0_14⟩, ⟨Nx0_1, Nx0_2, Nx0_3, Nx0_4, Nx0_5, Nx0_6, Nx0_7, Nx0_8, Nx0_9, Nx0_10, Nx0_12, Nx0_13, Nx0_14⟩⟩ := tn_net Kx0_0
  refine tf_LW_go ?_
  show (tf_K x0 = 0 ∧ x0 < nc) ∧ (tf_K (tf_R x0 6) = 8 ∧ (tf_R x0 6) < nc ∧ vp_in x1 (tf_N (tf_R x0 6))) ∧ ((h.1 (tf_R x0 6) (x1 : Int32).toNatClampNeg) ≤ (0 : Int32) → lx_X1_mayOffer nc C Q 32 [.ref (x0), .int (x1)] [] h) ∧ (¬ (h.1 (tf_R x0 6) (x1 : Int32).toNatClampNeg) ≤ (0 : Int32) → lx_X1_mayOffer nc C Q 33 [.ref (x0), .int (x1)] [.int (1)] h)
  try simp only [(show tf_R x0 6 = x0 + 4 by rw [tn_R0 Kx0_0]; try omega), Nx0_4]
  exact ⟨⟨Kx0_0, (show x0 < nc by omega)⟩, ⟨⟨Kx0_4, (show x0 + 4 < nc by omega), q.1⟩, ⟨q.2.1, fun c1 => (q.2.2 c1)⟩⟩⟩
set_option maxRecDepth 100000 in
theorem go_X1_mayOffer_32 {nc : Nat} {C : tf_C} {Q : tf_Q} {h : LH} (hn : 270 ≤ nc) {x0 : Nat} {x1 : Int32} (Kx0_0 : tf_K x0 = 0) (q : lx_X1_mayOffer nc C Q 33 [.ref (x0), .int (x1)] [.int (0)] h) : lx_X1_mayOffer nc C Q 32 [.ref (x0), .int (x1)] [] h := by
  obtain ⟨Bx0, ⟨Kx0_1, Kx0_2, Kx0_3, Kx0_4, Kx0_5, Kx0_6, Kx0_7, Kx0_8, Kx0_9, Kx0_10, Kx0_11, Kx0_12, Kx0_13, Kx0_14⟩, ⟨Nx0_1, Nx0_2, Nx0_3, Nx0_4, Nx0_5, Nx0_6, Nx0_7, Nx0_8, Nx0_9, Nx0_10, Nx0_12, Nx0_13, Nx0_14⟩⟩ := tn_net Kx0_0
  refine tf_LW_go ?_
  exact q
set_option maxRecDepth 100000 in
theorem go_X1_mayOffer_33 {nc : Nat} {C : tf_C} {Q : tf_Q} {h : LH} (hn : 270 ≤ nc) {x0 : Nat} {x1 : Int32} {y0 : Int32} (Kx0_0 : tf_K x0 = 0) (q : (vp_nar .boolean (y0) = (y0)) ∧ Q (.int (y0)) h) : lx_X1_mayOffer nc C Q 33 [.ref (x0), .int (x1)] [.int (y0)] h := by
  obtain ⟨Bx0, ⟨Kx0_1, Kx0_2, Kx0_3, Kx0_4, Kx0_5, Kx0_6, Kx0_7, Kx0_8, Kx0_9, Kx0_10, Kx0_11, Kx0_12, Kx0_13, Kx0_14⟩, ⟨Nx0_1, Nx0_2, Nx0_3, Nx0_4, Nx0_5, Nx0_6, Nx0_7, Nx0_8, Nx0_9, Nx0_10, Nx0_12, Nx0_13, Nx0_14⟩⟩ := tn_net Kx0_0
  refine tf_LW_go ?_
  exact q
abbrev lx_X1_offer (nc : Nat) (C : tf_C) (Q : tf_Q) : tf_X := tf_LW nc C (tf_F 0) (tf_M 0) (tf_I 0) (tf_Eh 133) 1 tb_X1_offer Q
set_option maxRecDepth 100000 in
theorem go_X1_offer_0 {nc : Nat} {C : tf_C} {Q : tf_Q} {h : LH} (hn : 270 ≤ nc) {x0 : Nat} {x1 : Int32} (Kx0_0 : tf_K x0 = 0) (q : C 132 [.ref (x0), .int (x1)] h (fun r g => lx_X1_offer nc C Q 5 [.ref (x0), .int (x1)] (r :: []) g)) : lx_X1_offer nc C Q 0 [.ref (x0), .int (x1)] [] h := by
  obtain ⟨Bx0, ⟨Kx0_1, Kx0_2, Kx0_3, Kx0_4, Kx0_5, Kx0_6, Kx0_7, Kx0_8, Kx0_9, Kx0_10, Kx0_11, Kx0_12, Kx0_13, Kx0_14⟩, ⟨Nx0_1, Nx0_2, Nx0_3, Nx0_4, Nx0_5, Nx0_6, Nx0_7, Nx0_8, Nx0_9, Nx0_10, Nx0_12, Nx0_13, Nx0_14⟩⟩ := tn_net Kx0_0
  refine tf_LW_go ?_
  exact ⟨Nat.le_of_ble_eq_true rfl, Nat.le_of_ble_eq_true rfl, q⟩
theorem en_X1_offer {nc d : Nat} {Q : tf_Q} {h : LH} (hn : 270 ≤ nc) {x0 : Nat} {x1 : Int32} (Kx0_0 : tf_K x0 = 0) (q : lx_X1_offer nc (tf_Cd nc d) Q 0 [.ref (x0), .int (x1)] [] h) : tf_Cd nc (d + 1) 133 [.ref (x0), .int (x1)] h Q := by
  obtain ⟨Bx0, ⟨Kx0_1, Kx0_2, Kx0_3, Kx0_4, Kx0_5, Kx0_6, Kx0_7, Kx0_8, Kx0_9, Kx0_10, Kx0_11, Kx0_12, Kx0_13, Kx0_14⟩, ⟨Nx0_1, Nx0_2, Nx0_3, Nx0_4, Nx0_5, Nx0_6, Nx0_7, Nx0_8, Nx0_9, Nx0_10, Nx0_12, Nx0_13, Nx0_14⟩⟩ := tn_net Kx0_0
  exact ⟨⟨Nat.le_of_ble_eq_true rfl, Or.inr ⟨Kx0_0, (show x0 < nc by omega)⟩⟩, q⟩
set_option maxRecDepth 100000 in
theorem go_X1_offer_5 {nc : Nat} {C : tf_C} {Q : tf_Q} {h : LH} (hn : 270 ≤ nc) {x0 : Nat} {x1 : Int32} {y0 : Int32} (Kx0_0 : tf_K x0 = 0) (q : (y0 = (0 : Int32) → Q (.int (0)) h) ∧ (¬ y0 = (0 : Int32) → lx_X1_offer nc C Q 10 [.ref (x0), .int (x1)] [] h)) : lx_X1_offer nc C Q 5 [.ref (x0), .int (x1)] [.int (y0)] h := by
  obtain ⟨Bx0, ⟨Kx0_1, Kx0_2, Kx0_3, Kx0_4, Kx0_5, Kx0_6, Kx0_7, Kx0_8, Kx0_9, Kx0_10, Kx0_11, Kx0_12, Kx0_13, Kx0_14⟩, ⟨Nx0_1, Nx0_2, Nx0_3, Nx0_4, Nx0_5, Nx0_6, Nx0_7, Nx0_8, Nx0_9, Nx0_10, Nx0_12, Nx0_13, Nx0_14⟩⟩ := tn_net Kx0_0
  refine tf_LW_go ?_
  exact ⟨fun c1 => ⟨(by first | trivial | rfl), (q.1 c1)⟩, q.2⟩
set_option maxRecDepth 100000 in
theorem go_X1_offer_10 {nc : Nat} {C : tf_C} {Q : tf_Q} {h : LH} (hn : 270 ≤ nc) {x0 : Nat} {x1 : Int32} (Kx0_0 : tf_K x0 = 0) (q : (vp_in x1 21) ∧ ((h.1 (x0 + 7) (x1 : Int32).toNatClampNeg) = (0 : Int32) → C 131 [.ref (x0), .int (x1)] h (fun r g => lx_X1_offer nc C Q 25 [.ref (x0), .int (x1)] (r :: [.int (0)]) g)) ∧ (¬ (h.1 (x0 + 7) (x1 : Int32).toNatClampNeg) = (0 : Int32) → lx_X1_offer nc C Q 29 [.ref (x0), .int (x1)] [.int (0)] h)) : lx_X1_offer nc C Q 10 [.ref (x0), .int (x1)] [] h := by
  obtain ⟨Bx0, ⟨Kx0_1, Kx0_2, Kx0_3, Kx0_4, Kx0_5, Kx0_6, Kx0_7, Kx0_8, Kx0_9, Kx0_10, Kx0_11, Kx0_12, Kx0_13, Kx0_14⟩, ⟨Nx0_1, Nx0_2, Nx0_3, Nx0_4, Nx0_5, Nx0_6, Nx0_7, Nx0_8, Nx0_9, Nx0_10, Nx0_12, Nx0_13, Nx0_14⟩⟩ := tn_net Kx0_0
  refine tf_LW_go ?_
  show (tf_K x0 = 0 ∧ x0 < nc) ∧ (tf_K (tf_R x0 9) = 8 ∧ (tf_R x0 9) < nc ∧ vp_in x1 (tf_N (tf_R x0 9))) ∧ ((h.1 (tf_R x0 9) (x1 : Int32).toNatClampNeg) = (0 : Int32) → 2 ≤ 3 ∧ 1 ≤ 8 ∧ C 131 [.ref (x0), .int (x1)] h (fun r g => lx_X1_offer nc C Q 25 [.ref (x0), .int (x1)] (r :: [.int (0)]) g)) ∧ (¬ (h.1 (tf_R x0 9) (x1 : Int32).toNatClampNeg) = (0 : Int32) → lx_X1_offer nc C Q 29 [.ref (x0), .int (x1)] [.int (0)] h)
  try simp only [(show tf_R x0 9 = x0 + 7 by rw [tn_R0 Kx0_0]; try omega), Nx0_7]
  exact ⟨⟨Kx0_0, (show x0 < nc by omega)⟩, ⟨⟨Kx0_7, (show x0 + 7 < nc by omega), q.1⟩, ⟨fun c1 => ⟨Nat.le_of_ble_eq_true rfl, Nat.le_of_ble_eq_true rfl, (q.2.1 c1)⟩, q.2.2⟩⟩⟩
set_option maxRecDepth 100000 in
theorem go_X1_offer_25 {nc : Nat} {C : tf_C} {Q : tf_Q} {h : LH} (hn : 270 ≤ nc) {x0 : Nat} {x1 : Int32} {y0 : Int32} {y1 : Int32} (Kx0_0 : tf_K x0 = 0) (q : lx_X1_offer nc C Q 34 [.ref (x0), .int (x1)] [.int (-y1), .int (y0)] h) : lx_X1_offer nc C Q 25 [.ref (x0), .int (x1)] [.int (y1), .int (y0)] h := by
  obtain ⟨Bx0, ⟨Kx0_1, Kx0_2, Kx0_3, Kx0_4, Kx0_5, Kx0_6, Kx0_7, Kx0_8, Kx0_9, Kx0_10, Kx0_11, Kx0_12, Kx0_13, Kx0_14⟩, ⟨Nx0_1, Nx0_2, Nx0_3, Nx0_4, Nx0_5, Nx0_6, Nx0_7, Nx0_8, Nx0_9, Nx0_10, Nx0_12, Nx0_13, Nx0_14⟩⟩ := tn_net Kx0_0
  refine tf_LW_go ?_
  exact q
set_option maxRecDepth 100000 in
theorem go_X1_offer_29 {nc : Nat} {C : tf_C} {Q : tf_Q} {h : LH} (hn : 270 ≤ nc) {x0 : Nat} {x1 : Int32} {y0 : Int32} (Kx0_0 : tf_K x0 = 0) (q : C 131 [.ref (x0), .int (x1)] h (fun r g => lx_X1_offer nc C Q 34 [.ref (x0), .int (x1)] (r :: [.int (y0)]) g)) : lx_X1_offer nc C Q 29 [.ref (x0), .int (x1)] [.int (y0)] h := by
  obtain ⟨Bx0, ⟨Kx0_1, Kx0_2, Kx0_3, Kx0_4, Kx0_5, Kx0_6, Kx0_7, Kx0_8, Kx0_9, Kx0_10, Kx0_11, Kx0_12, Kx0_13, Kx0_14⟩, ⟨Nx0_1, Nx0_2, Nx0_3, Nx0_4, Nx0_5, Nx0_6, Nx0_7, Nx0_8, Nx0_9, Nx0_10, Nx0_12, Nx0_13, Nx0_14⟩⟩ := tn_net Kx0_0
  refine tf_LW_go ?_
  exact ⟨Nat.le_of_ble_eq_true rfl, Nat.le_of_ble_eq_true rfl, q⟩
set_option maxRecDepth 100000 in
theorem go_X1_offer_34 {nc : Nat} {C : tf_C} {Q : tf_Q} {h : LH} (hn : 270 ≤ nc) {x0 : Nat} {x1 : Int32} {y0 : Int32} {y1 : Int32} (Kx0_0 : tf_K x0 = 0) (q : C 1001 [.int (y0), .int (y1)] h (fun r g => lx_X1_offer nc C Q 37 [.ref (x0), .int (x1)] (r :: []) g)) : lx_X1_offer nc C Q 34 [.ref (x0), .int (x1)] [.int (y1), .int (y0)] h := by
  obtain ⟨Bx0, ⟨Kx0_1, Kx0_2, Kx0_3, Kx0_4, Kx0_5, Kx0_6, Kx0_7, Kx0_8, Kx0_9, Kx0_10, Kx0_11, Kx0_12, Kx0_13, Kx0_14⟩, ⟨Nx0_1, Nx0_2, Nx0_3, Nx0_4, Nx0_5, Nx0_6, Nx0_7, Nx0_8, Nx0_9, Nx0_10, Nx0_12, Nx0_13, Nx0_14⟩⟩ := tn_net Kx0_0
  refine tf_LW_go ?_
  exact ⟨Nat.le_of_ble_eq_true rfl, Nat.le_of_ble_eq_true rfl, q⟩
set_option maxRecDepth 100000 in
theorem go_X1_offer_37 {nc : Nat} {C : tf_C} {Q : tf_Q} {h : LH} (hn : 270 ≤ nc) {x0 : Nat} {x1 : Int32} {y0 : Int32} (Kx0_0 : tf_K x0 = 0) (q : Q (.int (y0)) h) : lx_X1_offer nc C Q 37 [.ref (x0), .int (x1)] [.int (y0)] h := by
  obtain ⟨Bx0, ⟨Kx0_1, Kx0_2, Kx0_3, Kx0_4, Kx0_5, Kx0_6, Kx0_7, Kx0_8, Kx0_9, Kx0_10, Kx0_11, Kx0_12, Kx0_13, Kx0_14⟩, ⟨Nx0_1, Nx0_2, Nx0_3, Nx0_4, Nx0_5, Nx0_6, Nx0_7, Nx0_8, Nx0_9, Nx0_10, Nx0_12, Nx0_13, Nx0_14⟩⟩ := tn_net Kx0_0
  refine tf_LW_go ?_
  exact ⟨(by first | trivial | rfl), q⟩
abbrev lx_X1_countOffers (nc : Nat) (C : tf_C) (Q : tf_Q) : tf_X := tf_LW nc C (tf_F 0) (tf_M 0) (tf_I 0) (tf_Eh 134) 1 tb_X1_countOffers Q
set_option maxRecDepth 100000 in
theorem go_X1_countOffers_0 {nc : Nat} {C : tf_C} {Q : tf_Q} {h : LH} (hn : 270 ≤ nc) {x0 : Nat} (Kx0_0 : tf_K x0 = 0) (q : lx_X1_countOffers nc C Q 4 [.ref (x0), .int (0), .int (0)] [] h) : lx_X1_countOffers nc C Q 0 [.ref (x0), tf_z, tf_z] [] h := by
  obtain ⟨Bx0, ⟨Kx0_1, Kx0_2, Kx0_3, Kx0_4, Kx0_5, Kx0_6, Kx0_7, Kx0_8, Kx0_9, Kx0_10, Kx0_11, Kx0_12, Kx0_13, Kx0_14⟩, ⟨Nx0_1, Nx0_2, Nx0_3, Nx0_4, Nx0_5, Nx0_6, Nx0_7, Nx0_8, Nx0_9, Nx0_10, Nx0_12, Nx0_13, Nx0_14⟩⟩ := tn_net Kx0_0
  refine tf_LW_go ?_
  exact q
theorem en_X1_countOffers {nc d : Nat} {Q : tf_Q} {h : LH} (hn : 270 ≤ nc) {x0 : Nat} (Kx0_0 : tf_K x0 = 0) (q : lx_X1_countOffers nc (tf_Cd nc d) Q 0 [.ref (x0), tf_z, tf_z] [] h) : tf_Cd nc (d + 1) 134 [.ref (x0)] h Q := by
  obtain ⟨Bx0, ⟨Kx0_1, Kx0_2, Kx0_3, Kx0_4, Kx0_5, Kx0_6, Kx0_7, Kx0_8, Kx0_9, Kx0_10, Kx0_11, Kx0_12, Kx0_13, Kx0_14⟩, ⟨Nx0_1, Nx0_2, Nx0_3, Nx0_4, Nx0_5, Nx0_6, Nx0_7, Nx0_8, Nx0_9, Nx0_10, Nx0_12, Nx0_13, Nx0_14⟩⟩ := tn_net Kx0_0
  exact ⟨⟨Nat.le_of_ble_eq_true rfl, Or.inr ⟨Kx0_0, (show x0 < nc by omega)⟩⟩, q⟩
set_option maxRecDepth 100000 in
theorem go_X1_countOffers_4 {nc : Nat} {C : tf_C} {Q : tf_Q} {h : LH} (hn : 270 ≤ nc) {x0 : Nat} {x1 : Int32} {x2 : Int32} (Kx0_0 : tf_K x0 = 0) (q : ((h.1 x0 1) ≤ x2 → lx_X1_countOffers nc C Q 29 [.ref (x0), .int (x1), .int (x2)] [] h) ∧ (¬ (h.1 x0 1) ≤ x2 → C 133 [.ref (x0), .int (x2)] h (fun r g => lx_X1_countOffers nc C Q 17 [.ref (x0), .int (x1), .int (x2)] (r :: []) g))) : lx_X1_countOffers nc C Q 4 [.ref (x0), .int (x1), .int (x2)] [] h := by
  obtain ⟨Bx0, ⟨Kx0_1, Kx0_2, Kx0_3, Kx0_4, Kx0_5, Kx0_6, Kx0_7, Kx0_8, Kx0_9, Kx0_10, Kx0_11, Kx0_12, Kx0_13, Kx0_14⟩, ⟨Nx0_1, Nx0_2, Nx0_3, Nx0_4, Nx0_5, Nx0_6, Nx0_7, Nx0_8, Nx0_9, Nx0_10, Nx0_12, Nx0_13, Nx0_14⟩⟩ := tn_net Kx0_0
  refine tf_LW_go ?_
  exact ⟨⟨Kx0_0, (show x0 < nc by omega)⟩, ⟨q.1, fun c1 => ⟨Nat.le_of_ble_eq_true rfl, Nat.le_of_ble_eq_true rfl, (q.2 c1)⟩⟩⟩
set_option maxRecDepth 100000 in
theorem go_X1_countOffers_17 {nc : Nat} {C : tf_C} {Q : tf_Q} {h : LH} (hn : 270 ≤ nc) {x0 : Nat} {x1 : Int32} {x2 : Int32} {y0 : Int32} (Kx0_0 : tf_K x0 = 0) (q : (y0 ≤ (0 : Int32) → lx_X1_countOffers nc C Q 23 [.ref (x0), .int (x1), .int (x2)] [] h) ∧ (¬ y0 ≤ (0 : Int32) → lx_X1_countOffers nc C Q 23 [.ref (x0), .int (x1 + 1), .int (x2)] [] h)) : lx_X1_countOffers nc C Q 17 [.ref (x0), .int (x1), .int (x2)] [.int (y0)] h := by
  obtain ⟨Bx0, ⟨Kx0_1, Kx0_2, Kx0_3, Kx0_4, Kx0_5, Kx0_6, Kx0_7, Kx0_8, Kx0_9, Kx0_10, Kx0_11, Kx0_12, Kx0_13, Kx0_14⟩, ⟨Nx0_1, Nx0_2, Nx0_3, Nx0_4, Nx0_5, Nx0_6, Nx0_7, Nx0_8, Nx0_9, Nx0_10, Nx0_12, Nx0_13, Nx0_14⟩⟩ := tn_net Kx0_0
  refine tf_LW_go ?_
  exact ⟨q.1, fun c1 => (q.2 c1)⟩
set_option maxRecDepth 100000 in
theorem go_X1_countOffers_23 {nc : Nat} {C : tf_C} {Q : tf_Q} {h : LH} (hn : 270 ≤ nc) {x0 : Nat} {x1 : Int32} {x2 : Int32} (Kx0_0 : tf_K x0 = 0) (q : lx_X1_countOffers nc C Q 4 [.ref (x0), .int (x1), .int (x2 + 1)] [] h) : lx_X1_countOffers nc C Q 23 [.ref (x0), .int (x1), .int (x2)] [] h := by
  obtain ⟨Bx0, ⟨Kx0_1, Kx0_2, Kx0_3, Kx0_4, Kx0_5, Kx0_6, Kx0_7, Kx0_8, Kx0_9, Kx0_10, Kx0_11, Kx0_12, Kx0_13, Kx0_14⟩, ⟨Nx0_1, Nx0_2, Nx0_3, Nx0_4, Nx0_5, Nx0_6, Nx0_7, Nx0_8, Nx0_9, Nx0_10, Nx0_12, Nx0_13, Nx0_14⟩⟩ := tn_net Kx0_0
  refine tf_LW_go ?_
  exact q
set_option maxRecDepth 100000 in
theorem go_X1_countOffers_29 {nc : Nat} {C : tf_C} {Q : tf_Q} {h : LH} (hn : 270 ≤ nc) {x0 : Nat} {x1 : Int32} {x2 : Int32} (Kx0_0 : tf_K x0 = 0) (q : Q (.int (x1)) h) : lx_X1_countOffers nc C Q 29 [.ref (x0), .int (x1), .int (x2)] [] h := by
  obtain ⟨Bx0, ⟨Kx0_1, Kx0_2, Kx0_3, Kx0_4, Kx0_5, Kx0_6, Kx0_7, Kx0_8, Kx0_9, Kx0_10, Kx0_11, Kx0_12, Kx0_13, Kx0_14⟩, ⟨Nx0_1, Nx0_2, Nx0_3, Nx0_4, Nx0_5, Nx0_6, Nx0_7, Nx0_8, Nx0_9, Nx0_10, Nx0_12, Nx0_13, Nx0_14⟩⟩ := tn_net Kx0_0
  refine tf_LW_go ?_
  exact ⟨(by first | trivial | rfl), q⟩
abbrev lx_X1_pick (nc : Nat) (C : tf_C) (Q : tf_Q) : tf_X := tf_LW nc C (tf_F 0) (tf_M 0) (tf_I 0) (tf_Eh 135) 1 tb_X1_pick Q
set_option maxRecDepth 100000 in
theorem go_X1_pick_0 {nc : Nat} {C : tf_C} {Q : tf_Q} {h : LH} (hn : 270 ≤ nc) {x0 : Nat} {x1 : Int32} (Kx0_0 : tf_K x0 = 0) (q : (x1 = (2 : Int32) → lx_X1_pick nc C Q 18 [.ref (x0), .int (x1), tf_z, tf_z, tf_z, tf_z, tf_z, tf_z] [.int ((h.1 (x0 + 11) 3) + 1)] h) ∧ (¬ x1 = (2 : Int32) → lx_X1_pick nc C Q 17 [.ref (x0), .int (x1), tf_z, tf_z, tf_z, tf_z, tf_z, tf_z] [] h)) : lx_X1_pick nc C Q 0 [.ref (x0), .int (x1), tf_z, tf_z, tf_z, tf_z, tf_z, tf_z] [] h := by
  obtain ⟨Bx0, ⟨Kx0_1, Kx0_2, Kx0_3, Kx0_4, Kx0_5, Kx0_6, Kx0_7, Kx0_8, Kx0_9, Kx0_10, Kx0_11, Kx0_12, Kx0_13, Kx0_14⟩, ⟨Nx0_1, Nx0_2, Nx0_3, Nx0_4, Nx0_5, Nx0_6, Nx0_7, Nx0_8, Nx0_9, Nx0_10, Nx0_12, Nx0_13, Nx0_14⟩⟩ := tn_net Kx0_0
  refine tf_LW_go ?_
  show (x1 = (2 : Int32) → (tf_K x0 = 0 ∧ x0 < nc) ∧ (tf_K (tf_R x0 13) = 4 ∧ (tf_R x0 13) < nc) ∧ lx_X1_pick nc C Q 18 [.ref (x0), .int (x1), tf_z, tf_z, tf_z, tf_z, tf_z, tf_z] [.int ((h.1 (tf_R x0 13) 3) + 1)] h) ∧ (¬ x1 = (2 : Int32) → lx_X1_pick nc C Q 17 [.ref (x0), .int (x1), tf_z, tf_z, tf_z, tf_z, tf_z, tf_z] [] h)
  try simp only [(show tf_R x0 13 = x0 + 11 by rw [tn_R0 Kx0_0]; try omega)]
  exact ⟨fun c1 => ⟨⟨Kx0_0, (show x0 < nc by omega)⟩, ⟨⟨Kx0_11, (show x0 + 11 < nc by omega)⟩, (q.1 c1)⟩⟩, q.2⟩
theorem en_X1_pick {nc d : Nat} {Q : tf_Q} {h : LH} (hn : 270 ≤ nc) {x0 : Nat} {x1 : Int32} (Kx0_0 : tf_K x0 = 0) (q : lx_X1_pick nc (tf_Cd nc d) Q 0 [.ref (x0), .int (x1), tf_z, tf_z, tf_z, tf_z, tf_z, tf_z] [] h) : tf_Cd nc (d + 1) 135 [.ref (x0), .int (x1)] h Q := by
  obtain ⟨Bx0, ⟨Kx0_1, Kx0_2, Kx0_3, Kx0_4, Kx0_5, Kx0_6, Kx0_7, Kx0_8, Kx0_9, Kx0_10, Kx0_11, Kx0_12, Kx0_13, Kx0_14⟩, ⟨Nx0_1, Nx0_2, Nx0_3, Nx0_4, Nx0_5, Nx0_6, Nx0_7, Nx0_8, Nx0_9, Nx0_10, Nx0_12, Nx0_13, Nx0_14⟩⟩ := tn_net Kx0_0
  exact ⟨⟨Nat.le_of_ble_eq_true rfl, Or.inr ⟨Kx0_0, (show x0 < nc by omega)⟩⟩, q⟩
set_option maxRecDepth 100000 in
theorem go_X1_pick_17 {nc : Nat} {C : tf_C} {Q : tf_Q} {h : LH} (hn : 270 ≤ nc) {x0 : Nat} {x1 : Int32} (Kx0_0 : tf_K x0 = 0) (q : lx_X1_pick nc C Q 18 [.ref (x0), .int (x1), tf_z, tf_z, tf_z, tf_z, tf_z, tf_z] [.int (0)] h) : lx_X1_pick nc C Q 17 [.ref (x0), .int (x1), tf_z, tf_z, tf_z, tf_z, tf_z, tf_z] [] h := by
  obtain ⟨Bx0, ⟨Kx0_1, Kx0_2, Kx0_3, Kx0_4, Kx0_5, Kx0_6, Kx0_7, Kx0_8, Kx0_9, Kx0_10, Kx0_11, Kx0_12, Kx0_13, Kx0_14⟩, ⟨Nx0_1, Nx0_2, Nx0_3, Nx0_4, Nx0_5, Nx0_6, Nx0_7, Nx0_8, Nx0_9, Nx0_10, Nx0_12, Nx0_13, Nx0_14⟩⟩ := tn_net Kx0_0
  refine tf_LW_go ?_
  exact q
set_option maxRecDepth 100000 in
theorem go_X1_pick_18 {nc : Nat} {C : tf_C} {Q : tf_Q} {h : LH} (hn : 270 ≤ nc) {x0 : Nat} {x1 : Int32} {y0 : Int32} (Kx0_0 : tf_K x0 = 0) (q : lx_X1_pick nc C Q 27 [.ref (x0), .int (x1), .int (y0), .int ((-1)), .int (0), .int (0), tf_z, tf_z] [] h) : lx_X1_pick nc C Q 18 [.ref (x0), .int (x1), tf_z, tf_z, tf_z, tf_z, tf_z, tf_z] [.int (y0)] h := by
  obtain ⟨Bx0, ⟨Kx0_1, Kx0_2, Kx0_3, Kx0_4, Kx0_5, Kx0_6, Kx0_7, Kx0_8, Kx0_9, Kx0_10, Kx0_11, Kx0_12, Kx0_13, Kx0_14⟩, ⟨Nx0_1, Nx0_2, Nx0_3, Nx0_4, Nx0_5, Nx0_6, Nx0_7, Nx0_8, Nx0_9, Nx0_10, Nx0_12, Nx0_13, Nx0_14⟩⟩ := tn_net Kx0_0
  refine tf_LW_go ?_
  exact q
set_option maxRecDepth 100000 in
theorem go_X1_pick_27 {nc : Nat} {C : tf_C} {Q : tf_Q} {h : LH} (hn : 270 ≤ nc) {x0 : Nat} {x1 : Int32} {x2 : Int32} {x3 : Int32} {x4 : Int32} {x5 : Int32} {x6 : Value} {x7 : Value} (Kx0_0 : tf_K x0 = 0) (q : ((h.1 x0 1) ≤ x5 → lx_X1_pick nc C Q 88 [.ref (x0), .int (x1), .int (x2), .int (x3), .int (x4), .int (x5), x6, x7] [] h) ∧ (¬ (h.1 x0 1) ≤ x5 → (¬ (h.1 x0 1) = (0 : Int32)) ∧ C 133 [.ref (x0), .int ((x2 + x5) - (x2 + x5) / (h.1 x0 1) * (h.1 x0 1))] h (fun r g => lx_X1_pick nc C Q 53 [.ref (x0), .int (x1), .int (x2), .int (x3), .int (x4), .int (x5), .int ((x2 + x5) - (x2 + x5) / (h.1 x0 1) * (h.1 x0 1)), x7] (r :: []) g))) : lx_X1_pick nc C Q 27 [.ref (x0), .int (x1), .int (x2), .int (x3), .int (x4), .int (x5), x6, x7] [] h := by
  obtain ⟨Bx0, ⟨Kx0_1, Kx0_2, Kx0_3, Kx0_4, Kx0_5, Kx0_6, Kx0_7, Kx0_8, Kx0_9, Kx0_10, Kx0_11, Kx0_12, Kx0_13, Kx0_14⟩, ⟨Nx0_1, Nx0_2, Nx0_3, Nx0_4, Nx0_5, Nx0_6, Nx0_7, Nx0_8, Nx0_9, Nx0_10, Nx0_12, Nx0_13, Nx0_14⟩⟩ := tn_net Kx0_0
  refine tf_LW_go ?_
  exact ⟨⟨Kx0_0, (show x0 < nc by omega)⟩, ⟨q.1, fun c1 => ⟨⟨Kx0_0, (show x0 < nc by omega)⟩, ⟨(q.2 c1).1, ⟨Nat.le_of_ble_eq_true rfl, Nat.le_of_ble_eq_true rfl, (q.2 c1).2⟩⟩⟩⟩⟩
set_option maxRecDepth 100000 in
theorem go_X1_pick_53 {nc : Nat} {C : tf_C} {Q : tf_Q} {h : LH} (hn : 270 ≤ nc) {x0 : Nat} {x1 : Int32} {x2 : Int32} {x3 : Int32} {x4 : Int32} {x5 : Int32} {x6 : Int32} {x7 : Value} {y0 : Int32} (Kx0_0 : tf_K x0 = 0) (q : (y0 ≤ (0 : Int32) → lx_X1_pick nc C Q 68 [.ref (x0), .int (x1), .int (x2), .int (x3), .int (x4), .int (x5), .int (x6), .int (y0)] [] h) ∧ (¬ y0 ≤ (0 : Int32) → (x1 = (1 : Int32) → lx_X1_pick nc C Q 68 [.ref (x0), .int (x1), .int (x2), .int (x3), .int (x4), .int (x5), .int (x6), .int (y0)] [] h) ∧ (¬ x1 = (1 : Int32) → Q (.int (x6)) h))) : lx_X1_pick nc C Q 53 [.ref (x0), .int (x1), .int (x2), .int (x3), .int (x4), .int (x5), .int (x6), x7] [.int (y0)] h := by
  obtain ⟨Bx0, ⟨Kx0_1, Kx0_2, Kx0_3, Kx0_4, Kx0_5, Kx0_6, Kx0_7, Kx0_8, Kx0_9, Kx0_10, Kx0_11, Kx0_12, Kx0_13, Kx0_14⟩, ⟨Nx0_1, Nx0_2, Nx0_3, Nx0_4, Nx0_5, Nx0_6, Nx0_7, Nx0_8, Nx0_9, Nx0_10, Nx0_12, Nx0_13, Nx0_14⟩⟩ := tn_net Kx0_0
  refine tf_LW_go ?_
  exact ⟨q.1, fun c2 => ⟨(q.2 c2).1, fun c1 => ⟨(by first | trivial | rfl), ((q.2 c2).2 c1)⟩⟩⟩
set_option maxRecDepth 100000 in
theorem go_X1_pick_68 {nc : Nat} {C : tf_C} {Q : tf_Q} {h : LH} (hn : 270 ≤ nc) {x0 : Nat} {x1 : Int32} {x2 : Int32} {x3 : Int32} {x4 : Int32} {x5 : Int32} {x6 : Int32} {x7 : Int32} (Kx0_0 : tf_K x0 = 0) (q : (x7 ≤ x4 → lx_X1_pick nc C Q 82 [.ref (x0), .int (x1), .int (x2), .int (x3), .int (x4), .int (x5), .int (x6), .int (x7)] [] h) ∧ (¬ x7 ≤ x4 → lx_X1_pick nc C Q 82 [.ref (x0), .int (x1), .int (x2), .int (x6), .int (x7), .int (x5), .int (x6), .int (x7)] [] h)) : lx_X1_pick nc C Q 68 [.ref (x0), .int (x1), .int (x2), .int (x3), .int (x4), .int (x5), .int (x6), .int (x7)] [] h := by
  obtain ⟨Bx0, ⟨Kx0_1, Kx0_2, Kx0_3, Kx0_4, Kx0_5, Kx0_6, Kx0_7, Kx0_8, Kx0_9, Kx0_10, Kx0_11, Kx0_12, Kx0_13, Kx0_14⟩, ⟨Nx0_1, Nx0_2, Nx0_3, Nx0_4, Nx0_5, Nx0_6, Nx0_7, Nx0_8, Nx0_9, Nx0_10, Nx0_12, Nx0_13, Nx0_14⟩⟩ := tn_net Kx0_0
  refine tf_LW_go ?_
  exact ⟨q.1, fun c1 => (q.2 c1)⟩
set_option maxRecDepth 100000 in
theorem go_X1_pick_82 {nc : Nat} {C : tf_C} {Q : tf_Q} {h : LH} (hn : 270 ≤ nc) {x0 : Nat} {x1 : Int32} {x2 : Int32} {x3 : Int32} {x4 : Int32} {x5 : Int32} {x6 : Int32} {x7 : Int32} (Kx0_0 : tf_K x0 = 0) (q : lx_X1_pick nc C Q 27 [.ref (x0), .int (x1), .int (x2), .int (x3), .int (x4), .int (x5 + 1), .int (x6), .int (x7)] [] h) : lx_X1_pick nc C Q 82 [.ref (x0), .int (x1), .int (x2), .int (x3), .int (x4), .int (x5), .int (x6), .int (x7)] [] h := by
  obtain ⟨Bx0, ⟨Kx0_1, Kx0_2, Kx0_3, Kx0_4, Kx0_5, Kx0_6, Kx0_7, Kx0_8, Kx0_9, Kx0_10, Kx0_11, Kx0_12, Kx0_13, Kx0_14⟩, ⟨Nx0_1, Nx0_2, Nx0_3, Nx0_4, Nx0_5, Nx0_6, Nx0_7, Nx0_8, Nx0_9, Nx0_10, Nx0_12, Nx0_13, Nx0_14⟩⟩ := tn_net Kx0_0
  refine tf_LW_go ?_
  exact q
set_option maxRecDepth 100000 in
theorem go_X1_pick_88 {nc : Nat} {C : tf_C} {Q : tf_Q} {h : LH} (hn : 270 ≤ nc) {x0 : Nat} {x1 : Int32} {x2 : Int32} {x3 : Int32} {x4 : Int32} {x5 : Int32} {x6 : Value} {x7 : Value} (Kx0_0 : tf_K x0 = 0) (q : Q (.int (x3)) h) : lx_X1_pick nc C Q 88 [.ref (x0), .int (x1), .int (x2), .int (x3), .int (x4), .int (x5), x6, x7] [] h := by
  obtain ⟨Bx0, ⟨Kx0_1, Kx0_2, Kx0_3, Kx0_4, Kx0_5, Kx0_6, Kx0_7, Kx0_8, Kx0_9, Kx0_10, Kx0_11, Kx0_12, Kx0_13, Kx0_14⟩, ⟨Nx0_1, Nx0_2, Nx0_3, Nx0_4, Nx0_5, Nx0_6, Nx0_7, Nx0_8, Nx0_9, Nx0_10, Nx0_12, Nx0_13, Nx0_14⟩⟩ := tn_net Kx0_0
  refine tf_LW_go ?_
  exact ⟨(by first | trivial | rfl), q⟩
abbrev lx_X1_room (nc : Nat) (C : tf_C) (Q : tf_Q) : tf_X := tf_LW nc C (tf_F 0) (tf_M 0) (tf_I 0) (tf_Eh 136) 1 tb_X1_room Q
set_option maxRecDepth 100000 in
theorem go_X1_room_0 {nc : Nat} {C : tf_C} {Q : tf_Q} {h : LH} (hn : 270 ≤ nc) {x0 : Nat} {x1 : Int32} {x2 : Int32} (Kx0_0 : tf_K x0 = 0) (q : (x2 = (0 : Int32) → (vp_in x1 21) ∧ Q (.int (h.1 (x0 + 6) (x1 : Int32).toNatClampNeg)) h) ∧ (¬ x2 = (0 : Int32) → lx_X1_room nc C Q 11 [.ref (x0), .int (x1), .int (x2)] [] h)) : lx_X1_room nc C Q 0 [.ref (x0), .int (x1), .int (x2)] [] h := by
  obtain ⟨Bx0, ⟨Kx0_1, Kx0_2, Kx0_3, Kx0_4, Kx0_5, Kx0_6, Kx0_7, Kx0_8, Kx0_9, Kx0_10, Kx0_11, Kx0_12, Kx0_13, Kx0_14⟩, ⟨Nx0_1, Nx0_2, Nx0_3, Nx0_4, Nx0_5, Nx0_6, Nx0_7, Nx0_8, Nx0_9, Nx0_10, Nx0_12, Nx0_13, Nx0_14⟩⟩ := tn_net Kx0_0
  refine tf_LW_go ?_
  show (x2 = (0 : Int32) → (tf_K x0 = 0 ∧ x0 < nc) ∧ (tf_K (tf_R x0 8) = 8 ∧ (tf_R x0 8) < nc ∧ vp_in x1 (tf_N (tf_R x0 8))) ∧ tf_rb 1 (h.1 (tf_R x0 8) (x1 : Int32).toNatClampNeg) ∧ Q (.int (h.1 (tf_R x0 8) (x1 : Int32).toNatClampNeg)) h) ∧ (¬ x2 = (0 : Int32) → lx_X1_room nc C Q 11 [.ref (x0), .int (x1), .int (x2)] [] h)
  try simp only [(show tf_R x0 8 = x0 + 6 by rw [tn_R0 Kx0_0]; try omega), Nx0_6]
  exact ⟨fun c1 => ⟨⟨Kx0_0, (show x0 < nc by omega)⟩, ⟨⟨Kx0_6, (show x0 + 6 < nc by omega), (q.1 c1).1⟩, ⟨(by first | trivial | rfl), (q.1 c1).2⟩⟩⟩, q.2⟩
theorem en_X1_room {nc d : Nat} {Q : tf_Q} {h : LH} (hn : 270 ≤ nc) {x0 : Nat} {x1 : Int32} {x2 : Int32} (Kx0_0 : tf_K x0 = 0) (q : lx_X1_room nc (tf_Cd nc d) Q 0 [.ref (x0), .int (x1), .int (x2)] [] h) : tf_Cd nc (d + 1) 136 [.ref (x0), .int (x1), .int (x2)] h Q := by
  obtain ⟨Bx0, ⟨Kx0_1, Kx0_2, Kx0_3, Kx0_4, Kx0_5, Kx0_6, Kx0_7, Kx0_8, Kx0_9, Kx0_10, Kx0_11, Kx0_12, Kx0_13, Kx0_14⟩, ⟨Nx0_1, Nx0_2, Nx0_3, Nx0_4, Nx0_5, Nx0_6, Nx0_7, Nx0_8, Nx0_9, Nx0_10, Nx0_12, Nx0_13, Nx0_14⟩⟩ := tn_net Kx0_0
  exact ⟨⟨Nat.le_of_ble_eq_true rfl, Or.inr ⟨Kx0_0, (show x0 < nc by omega)⟩⟩, q⟩
set_option maxRecDepth 100000 in
theorem go_X1_room_11 {nc : Nat} {C : tf_C} {Q : tf_Q} {h : LH} (hn : 270 ≤ nc) {x0 : Nat} {x1 : Int32} {x2 : Int32} (Kx0_0 : tf_K x0 = 0) (q : ((14 : Int32) ≤ x1 → lx_X1_room nc C Q 33 [.ref (x0), .int (x1), .int (x2)] [] h) ∧ (¬ (14 : Int32) ≤ x1 → (vp_in x1 21) ∧ (vp_in x1 21) ∧ lx_X1_room nc C Q 35 [.ref (x0), .int (x1), .int (x2)] [.int ((h.1 (x0 + 4) (x1 : Int32).toNatClampNeg) - (h.1 (x0 + 6) (x1 : Int32).toNatClampNeg))] h)) : lx_X1_room nc C Q 11 [.ref (x0), .int (x1), .int (x2)] [] h := by
  obtain ⟨Bx0, ⟨Kx0_1, Kx0_2, Kx0_3, Kx0_4, Kx0_5, Kx0_6, Kx0_7, Kx0_8, Kx0_9, Kx0_10, Kx0_11, Kx0_12, Kx0_13, Kx0_14⟩, ⟨Nx0_1, Nx0_2, Nx0_3, Nx0_4, Nx0_5, Nx0_6, Nx0_7, Nx0_8, Nx0_9, Nx0_10, Nx0_12, Nx0_13, Nx0_14⟩⟩ := tn_net Kx0_0
  refine tf_LW_go ?_
  show ((14 : Int32) ≤ x1 → lx_X1_room nc C Q 33 [.ref (x0), .int (x1), .int (x2)] [] h) ∧ (¬ (14 : Int32) ≤ x1 → (tf_K x0 = 0 ∧ x0 < nc) ∧ (tf_K (tf_R x0 6) = 8 ∧ (tf_R x0 6) < nc ∧ vp_in x1 (tf_N (tf_R x0 6))) ∧ (tf_K x0 = 0 ∧ x0 < nc) ∧ (tf_K (tf_R x0 8) = 8 ∧ (tf_R x0 8) < nc ∧ vp_in x1 (tf_N (tf_R x0 8))) ∧ lx_X1_room nc C Q 35 [.ref (x0), .int (x1), .int (x2)] [.int ((h.1 (tf_R x0 6) (x1 : Int32).toNatClampNeg) - (h.1 (tf_R x0 8) (x1 : Int32).toNatClampNeg))] h)
  try simp only [(show tf_R x0 6 = x0 + 4 by rw [tn_R0 Kx0_0]; try omega), (show tf_R x0 8 = x0 + 6 by rw [tn_R0 Kx0_0]; try omega), Nx0_4, Nx0_6]
  exact ⟨q.1, fun c1 => ⟨⟨Kx0_0, (show x0 < nc by omega)⟩, ⟨⟨Kx0_4, (show x0 + 4 < nc by omega), (q.2 c1).1⟩, ⟨⟨Kx0_0, (show x0 < nc by omega)⟩, ⟨⟨Kx0_6, (show x0 + 6 < nc by omega), (q.2 c1).2.1⟩, (q.2 c1).2.2⟩⟩⟩⟩⟩
set_option maxRecDepth 100000 in
theorem go_X1_room_33 {nc : Nat} {C : tf_C} {Q : tf_Q} {h : LH} (hn : 270 ≤ nc) {x0 : Nat} {x1 : Int32} {x2 : Int32} (Kx0_0 : tf_K x0 = 0) (q : lx_X1_room nc C Q 35 [.ref (x0), .int (x1), .int (x2)] [.int (1000000)] h) : lx_X1_room nc C Q 33 [.ref (x0), .int (x1), .int (x2)] [] h := by
  obtain ⟨Bx0, ⟨Kx0_1, Kx0_2, Kx0_3, Kx0_4, Kx0_5, Kx0_6, Kx0_7, Kx0_8, Kx0_9, Kx0_10, Kx0_11, Kx0_12, Kx0_13, Kx0_14⟩, ⟨Nx0_1, Nx0_2, Nx0_3, Nx0_4, Nx0_5, Nx0_6, Nx0_7, Nx0_8, Nx0_9, Nx0_10, Nx0_12, Nx0_13, Nx0_14⟩⟩ := tn_net Kx0_0
  refine tf_LW_go ?_
  exact q
set_option maxRecDepth 100000 in
theorem go_X1_room_35 {nc : Nat} {C : tf_C} {Q : tf_Q} {h : LH} (hn : 270 ≤ nc) {x0 : Nat} {x1 : Int32} {x2 : Int32} {y0 : Int32} (Kx0_0 : tf_K x0 = 0) (q : Q (.int (y0)) h) : lx_X1_room nc C Q 35 [.ref (x0), .int (x1), .int (x2)] [.int (y0)] h := by
  obtain ⟨Bx0, ⟨Kx0_1, Kx0_2, Kx0_3, Kx0_4, Kx0_5, Kx0_6, Kx0_7, Kx0_8, Kx0_9, Kx0_10, Kx0_11, Kx0_12, Kx0_13, Kx0_14⟩, ⟨Nx0_1, Nx0_2, Nx0_3, Nx0_4, Nx0_5, Nx0_6, Nx0_7, Nx0_8, Nx0_9, Nx0_10, Nx0_12, Nx0_13, Nx0_14⟩⟩ := tn_net Kx0_0
  refine tf_LW_go ?_
  exact ⟨(by first | trivial | rfl), q⟩
abbrev lx_X1_hasOnWay (nc : Nat) (C : tf_C) (Q : tf_Q) : tf_X := tf_LW nc C (tf_F 0) (tf_M 0) (tf_I 0) (tf_Eh 137) 2 tb_X1_hasOnWay Q
set_option maxRecDepth 100000 in
theorem go_X1_hasOnWay_0 {nc : Nat} {C : tf_C} {Q : tf_Q} {h : LH} (hn : 270 ≤ nc) {x0 : Nat} {x1 : Int32} {x2 : Int32} (Kx0_0 : tf_K x0 = 0) (q : lx_X1_hasOnWay nc C Q 5 [.ref (x0), .int (x1), .int (x2), .int (x1), .int (0)] [] h) : lx_X1_hasOnWay nc C Q 0 [.ref (x0), .int (x1), .int (x2), tf_z, tf_z] [] h := by
  obtain ⟨Bx0, ⟨Kx0_1, Kx0_2, Kx0_3, Kx0_4, Kx0_5, Kx0_6, Kx0_7, Kx0_8, Kx0_9, Kx0_10, Kx0_11, Kx0_12, Kx0_13, Kx0_14⟩, ⟨Nx0_1, Nx0_2, Nx0_3, Nx0_4, Nx0_5, Nx0_6, Nx0_7, Nx0_8, Nx0_9, Nx0_10, Nx0_12, Nx0_13, Nx0_14⟩⟩ := tn_net Kx0_0
  refine tf_LW_go ?_
  exact q
theorem en_X1_hasOnWay {nc d : Nat} {Q : tf_Q} {h : LH} (hn : 270 ≤ nc) {x0 : Nat} {x1 : Int32} {x2 : Int32} (Kx0_0 : tf_K x0 = 0) (q : lx_X1_hasOnWay nc (tf_Cd nc d) Q 0 [.ref (x0), .int (x1), .int (x2), tf_z, tf_z] [] h) : tf_Cd nc (d + 1) 137 [.ref (x0), .int (x1), .int (x2)] h Q := by
  obtain ⟨Bx0, ⟨Kx0_1, Kx0_2, Kx0_3, Kx0_4, Kx0_5, Kx0_6, Kx0_7, Kx0_8, Kx0_9, Kx0_10, Kx0_11, Kx0_12, Kx0_13, Kx0_14⟩, ⟨Nx0_1, Nx0_2, Nx0_3, Nx0_4, Nx0_5, Nx0_6, Nx0_7, Nx0_8, Nx0_9, Nx0_10, Nx0_12, Nx0_13, Nx0_14⟩⟩ := tn_net Kx0_0
  exact ⟨⟨Nat.le_of_ble_eq_true rfl, Or.inr ⟨Kx0_0, (show x0 < nc by omega)⟩⟩, q⟩
set_option maxRecDepth 100000 in
theorem go_X1_hasOnWay_5 {nc : Nat} {C : tf_C} {Q : tf_Q} {h : LH} (hn : 270 ≤ nc) {x0 : Nat} {x1 : Int32} {x2 : Int32} {x3 : Int32} {x4 : Int32} (Kx0_0 : tf_K x0 = 0) (q : ((h.1 x0 0) ≤ x4 → lx_X1_hasOnWay nc C Q 40 [.ref (x0), .int (x1), .int (x2), .int (x3), .int (x4)] [] h) ∧ (¬ (h.1 x0 0) ≤ x4 → (x3 = (7 : Int32) → lx_X1_hasOnWay nc C Q 40 [.ref (x0), .int (x1), .int (x2), .int (x3), .int (x4)] [] h) ∧ (¬ x3 = (7 : Int32) → (x3 = x2 → Q (.int (1)) h) ∧ (¬ x3 = x2 → lx_X1_hasOnWay nc C Q 27 [.ref (x0), .int (x1), .int (x2), .int (x3), .int (x4)] [] h)))) : lx_X1_hasOnWay nc C Q 5 [.ref (x0), .int (x1), .int (x2), .int (x3), .int (x4)] [] h := by
  obtain ⟨Bx0, ⟨Kx0_1, Kx0_2, Kx0_3, Kx0_4, Kx0_5, Kx0_6, Kx0_7, Kx0_8, Kx0_9, Kx0_10, Kx0_11, Kx0_12, Kx0_13, Kx0_14⟩, ⟨Nx0_1, Nx0_2, Nx0_3, Nx0_4, Nx0_5, Nx0_6, Nx0_7, Nx0_8, Nx0_9, Nx0_10, Nx0_12, Nx0_13, Nx0_14⟩⟩ := tn_net Kx0_0
  refine tf_LW_go ?_
  exact ⟨⟨Kx0_0, (show x0 < nc by omega)⟩, ⟨q.1, fun c3 => ⟨(q.2 c3).1, fun c2 => ⟨fun c1 => ⟨(by first | rfl | trivial), (((q.2 c3).2 c2).1 c1)⟩, ((q.2 c3).2 c2).2⟩⟩⟩⟩
set_option maxRecDepth 100000 in
theorem go_X1_hasOnWay_27 {nc : Nat} {C : tf_C} {Q : tf_Q} {h : LH} (hn : 270 ≤ nc) {x0 : Nat} {x1 : Int32} {x2 : Int32} {x3 : Int32} {x4 : Int32} (Kx0_0 : tf_K x0 = 0) (q : (vp_in x3 7) ∧ lx_X1_hasOnWay nc C Q 5 [.ref (x0), .int (x1), .int (x2), .int (h.1 (x0 + 8) (x3 : Int32).toNatClampNeg), .int (x4 + 1)] [] h) : lx_X1_hasOnWay nc C Q 27 [.ref (x0), .int (x1), .int (x2), .int (x3), .int (x4)] [] h := by
  obtain ⟨Bx0, ⟨Kx0_1, Kx0_2, Kx0_3, Kx0_4, Kx0_5, Kx0_6, Kx0_7, Kx0_8, Kx0_9, Kx0_10, Kx0_11, Kx0_12, Kx0_13, Kx0_14⟩, ⟨Nx0_1, Nx0_2, Nx0_3, Nx0_4, Nx0_5, Nx0_6, Nx0_7, Nx0_8, Nx0_9, Nx0_10, Nx0_12, Nx0_13, Nx0_14⟩⟩ := tn_net Kx0_0
  refine tf_LW_go ?_
  show (tf_K x0 = 0 ∧ x0 < nc) ∧ (tf_K (tf_R x0 10) = 8 ∧ (tf_R x0 10) < nc ∧ vp_in x3 (tf_N (tf_R x0 10))) ∧ lx_X1_hasOnWay nc C Q 5 [.ref (x0), .int (x1), .int (x2), .int (h.1 (tf_R x0 10) (x3 : Int32).toNatClampNeg), .int (x4 + 1)] [] h
  try simp only [(show tf_R x0 10 = x0 + 8 by rw [tn_R0 Kx0_0]; try omega), Nx0_8]
  exact ⟨⟨Kx0_0, (show x0 < nc by omega)⟩, ⟨⟨Kx0_8, (show x0 + 8 < nc by omega), q.1⟩, q.2⟩⟩
set_option maxRecDepth 100000 in
theorem go_X1_hasOnWay_40 {nc : Nat} {C : tf_C} {Q : tf_Q} {h : LH} (hn : 270 ≤ nc) {x0 : Nat} {x1 : Int32} {x2 : Int32} {x3 : Int32} {x4 : Int32} (Kx0_0 : tf_K x0 = 0) (q : (x3 = x2 → lx_X1_hasOnWay nc C Q 50 [.ref (x0), .int (x1), .int (x2), .int (x3), .int (x4)] [.int (1)] h) ∧ (¬ x3 = x2 → lx_X1_hasOnWay nc C Q 49 [.ref (x0), .int (x1), .int (x2), .int (x3), .int (x4)] [] h)) : lx_X1_hasOnWay nc C Q 40 [.ref (x0), .int (x1), .int (x2), .int (x3), .int (x4)] [] h := by
  obtain ⟨Bx0, ⟨Kx0_1, Kx0_2, Kx0_3, Kx0_4, Kx0_5, Kx0_6, Kx0_7, Kx0_8, Kx0_9, Kx0_10, Kx0_11, Kx0_12, Kx0_13, Kx0_14⟩, ⟨Nx0_1, Nx0_2, Nx0_3, Nx0_4, Nx0_5, Nx0_6, Nx0_7, Nx0_8, Nx0_9, Nx0_10, Nx0_12, Nx0_13, Nx0_14⟩⟩ := tn_net Kx0_0
  refine tf_LW_go ?_
  exact ⟨fun c1 => (q.1 c1), q.2⟩
set_option maxRecDepth 100000 in
theorem go_X1_hasOnWay_49 {nc : Nat} {C : tf_C} {Q : tf_Q} {h : LH} (hn : 270 ≤ nc) {x0 : Nat} {x1 : Int32} {x2 : Int32} {x3 : Int32} {x4 : Int32} (Kx0_0 : tf_K x0 = 0) (q : lx_X1_hasOnWay nc C Q 50 [.ref (x0), .int (x1), .int (x2), .int (x3), .int (x4)] [.int (0)] h) : lx_X1_hasOnWay nc C Q 49 [.ref (x0), .int (x1), .int (x2), .int (x3), .int (x4)] [] h := by
  obtain ⟨Bx0, ⟨Kx0_1, Kx0_2, Kx0_3, Kx0_4, Kx0_5, Kx0_6, Kx0_7, Kx0_8, Kx0_9, Kx0_10, Kx0_11, Kx0_12, Kx0_13, Kx0_14⟩, ⟨Nx0_1, Nx0_2, Nx0_3, Nx0_4, Nx0_5, Nx0_6, Nx0_7, Nx0_8, Nx0_9, Nx0_10, Nx0_12, Nx0_13, Nx0_14⟩⟩ := tn_net Kx0_0
  refine tf_LW_go ?_
  exact q
set_option maxRecDepth 100000 in
theorem go_X1_hasOnWay_50 {nc : Nat} {C : tf_C} {Q : tf_Q} {h : LH} (hn : 270 ≤ nc) {x0 : Nat} {x1 : Int32} {x2 : Int32} {x3 : Int32} {x4 : Int32} {y0 : Int32} (Kx0_0 : tf_K x0 = 0) (q : (vp_nar .boolean (y0) = (y0)) ∧ Q (.int (y0)) h) : lx_X1_hasOnWay nc C Q 50 [.ref (x0), .int (x1), .int (x2), .int (x3), .int (x4)] [.int (y0)] h := by
  obtain ⟨Bx0, ⟨Kx0_1, Kx0_2, Kx0_3, Kx0_4, Kx0_5, Kx0_6, Kx0_7, Kx0_8, Kx0_9, Kx0_10, Kx0_11, Kx0_12, Kx0_13, Kx0_14⟩, ⟨Nx0_1, Nx0_2, Nx0_3, Nx0_4, Nx0_5, Nx0_6, Nx0_7, Nx0_8, Nx0_9, Nx0_10, Nx0_12, Nx0_13, Nx0_14⟩⟩ := tn_net Kx0_0
  refine tf_LW_go ?_
  exact q
abbrev lx_X1_depth (nc : Nat) (C : tf_C) (Q : tf_Q) : tf_X := tf_LW nc C (tf_F 0) (tf_M 0) (tf_I 0) (tf_Eh 138) 1 tb_X1_depth Q
set_option maxRecDepth 100000 in
theorem go_X1_depth_0 {nc : Nat} {C : tf_C} {Q : tf_Q} {h : LH} (hn : 270 ≤ nc) {x0 : Nat} {x1 : Int32} (Kx0_0 : tf_K x0 = 0) (q : lx_X1_depth nc C Q 4 [.ref (x0), .int (x1), .int (0), .int (x1)] [] h) : lx_X1_depth nc C Q 0 [.ref (x0), .int (x1), tf_z, tf_z] [] h := by
  obtain ⟨Bx0, ⟨Kx0_1, Kx0_2, Kx0_3, Kx0_4, Kx0_5, Kx0_6, Kx0_7, Kx0_8, Kx0_9, Kx0_10, Kx0_11, Kx0_12, Kx0_13, Kx0_14⟩, ⟨Nx0_1, Nx0_2, Nx0_3, Nx0_4, Nx0_5, Nx0_6, Nx0_7, Nx0_8, Nx0_9, Nx0_10, Nx0_12, Nx0_13, Nx0_14⟩⟩ := tn_net Kx0_0
  refine tf_LW_go ?_
  exact q
theorem en_X1_depth {nc d : Nat} {Q : tf_Q} {h : LH} (hn : 270 ≤ nc) {x0 : Nat} {x1 : Int32} (Kx0_0 : tf_K x0 = 0) (q : lx_X1_depth nc (tf_Cd nc d) Q 0 [.ref (x0), .int (x1), tf_z, tf_z] [] h) : tf_Cd nc (d + 1) 138 [.ref (x0), .int (x1)] h Q := by
  obtain ⟨Bx0, ⟨Kx0_1, Kx0_2, Kx0_3, Kx0_4, Kx0_5, Kx0_6, Kx0_7, Kx0_8, Kx0_9, Kx0_10, Kx0_11, Kx0_12, Kx0_13, Kx0_14⟩, ⟨Nx0_1, Nx0_2, Nx0_3, Nx0_4, Nx0_5, Nx0_6, Nx0_7, Nx0_8, Nx0_9, Nx0_10, Nx0_12, Nx0_13, Nx0_14⟩⟩ := tn_net Kx0_0
  exact ⟨⟨Nat.le_of_ble_eq_true rfl, Or.inr ⟨Kx0_0, (show x0 < nc by omega)⟩⟩, q⟩
set_option maxRecDepth 100000 in
theorem go_X1_depth_4 {nc : Nat} {C : tf_C} {Q : tf_Q} {h : LH} (hn : 270 ≤ nc) {x0 : Nat} {x1 : Int32} {x2 : Int32} {x3 : Int32} (Kx0_0 : tf_K x0 = 0) (q : ((h.1 x0 0) ≤ x2 → lx_X1_depth nc C Q 31 [.ref (x0), .int (x1), .int (x2), .int (x3)] [] h) ∧ (¬ (h.1 x0 0) ≤ x2 → (x3 = (7 : Int32) → lx_X1_depth nc C Q 31 [.ref (x0), .int (x1), .int (x2), .int (x3)] [] h) ∧ (¬ x3 = (7 : Int32) → (vp_in x3 7) ∧ lx_X1_depth nc C Q 4 [.ref (x0), .int (x1), .int (x2 + 1), .int (h.1 (x0 + 8) (x3 : Int32).toNatClampNeg)] [] h))) : lx_X1_depth nc C Q 4 [.ref (x0), .int (x1), .int (x2), .int (x3)] [] h := by
  obtain ⟨Bx0, ⟨Kx0_1, Kx0_2, Kx0_3, Kx0_4, Kx0_5, Kx0_6, Kx0_7, Kx0_8, Kx0_9, Kx0_10, Kx0_11, Kx0_12, Kx0_13, Kx0_14⟩, ⟨Nx0_1, Nx0_2, Nx0_3, Nx0_4, Nx0_5, Nx0_6, Nx0_7, Nx0_8, Nx0_9, Nx0_10, Nx0_12, Nx0_13, Nx0_14⟩⟩ := tn_net Kx0_0
  refine tf_LW_go ?_
  show (tf_K x0 = 0 ∧ x0 < nc) ∧ ((h.1 x0 0) ≤ x2 → lx_X1_depth nc C Q 31 [.ref (x0), .int (x1), .int (x2), .int (x3)] [] h) ∧ (¬ (h.1 x0 0) ≤ x2 → (x3 = (7 : Int32) → lx_X1_depth nc C Q 31 [.ref (x0), .int (x1), .int (x2), .int (x3)] [] h) ∧ (¬ x3 = (7 : Int32) → (tf_K x0 = 0 ∧ x0 < nc) ∧ (tf_K (tf_R x0 10) = 8 ∧ (tf_R x0 10) < nc ∧ vp_in x3 (tf_N (tf_R x0 10))) ∧ lx_X1_depth nc C Q 4 [.ref (x0), .int (x1), .int (x2 + 1), .int (h.1 (tf_R x0 10) (x3 : Int32).toNatClampNeg)] [] h))
  try simp only [(show tf_R x0 10 = x0 + 8 by rw [tn_R0 Kx0_0]; try omega), Nx0_8]
  exact ⟨⟨Kx0_0, (show x0 < nc by omega)⟩, ⟨q.1, fun c2 => ⟨(q.2 c2).1, fun c1 => ⟨⟨Kx0_0, (show x0 < nc by omega)⟩, ⟨⟨Kx0_8, (show x0 + 8 < nc by omega), ((q.2 c2).2 c1).1⟩, ((q.2 c2).2 c1).2⟩⟩⟩⟩⟩
set_option maxRecDepth 100000 in
theorem go_X1_depth_31 {nc : Nat} {C : tf_C} {Q : tf_Q} {h : LH} (hn : 270 ≤ nc) {x0 : Nat} {x1 : Int32} {x2 : Int32} {x3 : Int32} (Kx0_0 : tf_K x0 = 0) (q : Q (.int (x2)) h) : lx_X1_depth nc C Q 31 [.ref (x0), .int (x1), .int (x2), .int (x3)] [] h := by
  obtain ⟨Bx0, ⟨Kx0_1, Kx0_2, Kx0_3, Kx0_4, Kx0_5, Kx0_6, Kx0_7, Kx0_8, Kx0_9, Kx0_10, Kx0_11, Kx0_12, Kx0_13, Kx0_14⟩, ⟨Nx0_1, Nx0_2, Nx0_3, Nx0_4, Nx0_5, Nx0_6, Nx0_7, Nx0_8, Nx0_9, Nx0_10, Nx0_12, Nx0_13, Nx0_14⟩⟩ := tn_net Kx0_0
  refine tf_LW_go ?_
  exact ⟨(by first | trivial | rfl), q⟩
abbrev lx_X1_countBelow (nc : Nat) (C : tf_C) (Q : tf_Q) : tf_X := tf_LW nc C (tf_F 0) (tf_M 0) (tf_I 0) (tf_Eh 139) 1 tb_X1_countBelow Q
set_option maxRecDepth 100000 in
theorem go_X1_countBelow_0 {nc : Nat} {C : tf_C} {Q : tf_Q} {h : LH} (hn : 270 ≤ nc) {x0 : Nat} {x1 : Int32} (Kx0_0 : tf_K x0 = 0) (q : lx_X1_countBelow nc C Q 4 [.ref (x0), .int (x1), .int (0), .int (0)] [] h) : lx_X1_countBelow nc C Q 0 [.ref (x0), .int (x1), tf_z, tf_z] [] h := by
  obtain ⟨Bx0, ⟨Kx0_1, Kx0_2, Kx0_3, Kx0_4, Kx0_5, Kx0_6, Kx0_7, Kx0_8, Kx0_9, Kx0_10, Kx0_11, Kx0_12, Kx0_13, Kx0_14⟩, ⟨Nx0_1, Nx0_2, Nx0_3, Nx0_4, Nx0_5, Nx0_6, Nx0_7, Nx0_8, Nx0_9, Nx0_10, Nx0_12, Nx0_13, Nx0_14⟩⟩ := tn_net Kx0_0
  refine tf_LW_go ?_
  exact q
theorem en_X1_countBelow {nc d : Nat} {Q : tf_Q} {h : LH} (hn : 270 ≤ nc) {x0 : Nat} {x1 : Int32} (Kx0_0 : tf_K x0 = 0) (q : lx_X1_countBelow nc (tf_Cd nc d) Q 0 [.ref (x0), .int (x1), tf_z, tf_z] [] h) : tf_Cd nc (d + 1) 139 [.ref (x0), .int (x1)] h Q := by
  obtain ⟨Bx0, ⟨Kx0_1, Kx0_2, Kx0_3, Kx0_4, Kx0_5, Kx0_6, Kx0_7, Kx0_8, Kx0_9, Kx0_10, Kx0_11, Kx0_12, Kx0_13, Kx0_14⟩, ⟨Nx0_1, Nx0_2, Nx0_3, Nx0_4, Nx0_5, Nx0_6, Nx0_7, Nx0_8, Nx0_9, Nx0_10, Nx0_12, Nx0_13, Nx0_14⟩⟩ := tn_net Kx0_0
  exact ⟨⟨Nat.le_of_ble_eq_true rfl, Or.inr ⟨Kx0_0, (show x0 < nc by omega)⟩⟩, q⟩
set_option maxRecDepth 100000 in
theorem go_X1_countBelow_4 {nc : Nat} {C : tf_C} {Q : tf_Q} {h : LH} (hn : 270 ≤ nc) {x0 : Nat} {x1 : Int32} {x2 : Int32} {x3 : Int32} (Kx0_0 : tf_K x0 = 0) (q : ((h.1 x0 0) ≤ x3 → lx_X1_countBelow nc C Q 30 [.ref (x0), .int (x1), .int (x2), .int (x3)] [] h) ∧ (¬ (h.1 x0 0) ≤ x3 → C 137 [.ref (x0), .int (x3), .int (x1)] h (fun r g => lx_X1_countBelow nc C Q 18 [.ref (x0), .int (x1), .int (x2), .int (x3)] (r :: []) g))) : lx_X1_countBelow nc C Q 4 [.ref (x0), .int (x1), .int (x2), .int (x3)] [] h := by
  obtain ⟨Bx0, ⟨Kx0_1, Kx0_2, Kx0_3, Kx0_4, Kx0_5, Kx0_6, Kx0_7, Kx0_8, Kx0_9, Kx0_10, Kx0_11, Kx0_12, Kx0_13, Kx0_14⟩, ⟨Nx0_1, Nx0_2, Nx0_3, Nx0_4, Nx0_5, Nx0_6, Nx0_7, Nx0_8, Nx0_9, Nx0_10, Nx0_12, Nx0_13, Nx0_14⟩⟩ := tn_net Kx0_0
  refine tf_LW_go ?_
  exact ⟨⟨Kx0_0, (show x0 < nc by omega)⟩, ⟨q.1, fun c1 => ⟨Nat.le_of_ble_eq_true rfl, Nat.le_of_ble_eq_true rfl, (q.2 c1)⟩⟩⟩
set_option maxRecDepth 100000 in
theorem go_X1_countBelow_18 {nc : Nat} {C : tf_C} {Q : tf_Q} {h : LH} (hn : 270 ≤ nc) {x0 : Nat} {x1 : Int32} {x2 : Int32} {x3 : Int32} {y0 : Int32} (Kx0_0 : tf_K x0 = 0) (q : (y0 = (0 : Int32) → lx_X1_countBelow nc C Q 24 [.ref (x0), .int (x1), .int (x2), .int (x3)] [] h) ∧ (¬ y0 = (0 : Int32) → lx_X1_countBelow nc C Q 24 [.ref (x0), .int (x1), .int (x2 + 1), .int (x3)] [] h)) : lx_X1_countBelow nc C Q 18 [.ref (x0), .int (x1), .int (x2), .int (x3)] [.int (y0)] h := by
  obtain ⟨Bx0, ⟨Kx0_1, Kx0_2, Kx0_3, Kx0_4, Kx0_5, Kx0_6, Kx0_7, Kx0_8, Kx0_9, Kx0_10, Kx0_11, Kx0_12, Kx0_13, Kx0_14⟩, ⟨Nx0_1, Nx0_2, Nx0_3, Nx0_4, Nx0_5, Nx0_6, Nx0_7, Nx0_8, Nx0_9, Nx0_10, Nx0_12, Nx0_13, Nx0_14⟩⟩ := tn_net Kx0_0
  refine tf_LW_go ?_
  exact ⟨q.1, fun c1 => (q.2 c1)⟩
set_option maxRecDepth 100000 in
theorem go_X1_countBelow_24 {nc : Nat} {C : tf_C} {Q : tf_Q} {h : LH} (hn : 270 ≤ nc) {x0 : Nat} {x1 : Int32} {x2 : Int32} {x3 : Int32} (Kx0_0 : tf_K x0 = 0) (q : lx_X1_countBelow nc C Q 4 [.ref (x0), .int (x1), .int (x2), .int (x3 + 1)] [] h) : lx_X1_countBelow nc C Q 24 [.ref (x0), .int (x1), .int (x2), .int (x3)] [] h := by
  obtain ⟨Bx0, ⟨Kx0_1, Kx0_2, Kx0_3, Kx0_4, Kx0_5, Kx0_6, Kx0_7, Kx0_8, Kx0_9, Kx0_10, Kx0_11, Kx0_12, Kx0_13, Kx0_14⟩, ⟨Nx0_1, Nx0_2, Nx0_3, Nx0_4, Nx0_5, Nx0_6, Nx0_7, Nx0_8, Nx0_9, Nx0_10, Nx0_12, Nx0_13, Nx0_14⟩⟩ := tn_net Kx0_0
  refine tf_LW_go ?_
  exact q
set_option maxRecDepth 100000 in
theorem go_X1_countBelow_30 {nc : Nat} {C : tf_C} {Q : tf_Q} {h : LH} (hn : 270 ≤ nc) {x0 : Nat} {x1 : Int32} {x2 : Int32} {x3 : Int32} (Kx0_0 : tf_K x0 = 0) (q : Q (.int (x2)) h) : lx_X1_countBelow nc C Q 30 [.ref (x0), .int (x1), .int (x2), .int (x3)] [] h := by
  obtain ⟨Bx0, ⟨Kx0_1, Kx0_2, Kx0_3, Kx0_4, Kx0_5, Kx0_6, Kx0_7, Kx0_8, Kx0_9, Kx0_10, Kx0_11, Kx0_12, Kx0_13, Kx0_14⟩, ⟨Nx0_1, Nx0_2, Nx0_3, Nx0_4, Nx0_5, Nx0_6, Nx0_7, Nx0_8, Nx0_9, Nx0_10, Nx0_12, Nx0_13, Nx0_14⟩⟩ := tn_net Kx0_0
  refine tf_LW_go ?_
  exact ⟨(by first | trivial | rfl), q⟩
abbrev lx_X1_loanFlow (nc : Nat) (C : tf_C) (Q : tf_Q) : tf_X := tf_LW nc C (tf_F 0) (tf_M 0) (tf_I 0) (tf_Eh 140) 1 tb_X1_loanFlow Q
set_option maxRecDepth 100000 in
theorem go_X1_loanFlow_0 {nc : Nat} {C : tf_C} {Q : tf_Q} {h : LH} (hn : 270 ≤ nc) {x0 : Nat} {x1 : Int32} (Kx0_0 : tf_K x0 = 0) (q : (vp_in (14 + x1) 21) ∧ ((h.1 (x0 + 2) (14 + x1 : Int32).toNatClampNeg) = x1 → (vp_in (14 + x1) 21) ∧ lx_X1_loanFlow nc C Q 31 [.ref (x0), .int (x1), .int (14 + x1)] [.int (h.1 (x0 + 6) (14 + x1 : Int32).toNatClampNeg)] h) ∧ (¬ (h.1 (x0 + 2) (14 + x1 : Int32).toNatClampNeg) = x1 → lx_X1_loanFlow nc C Q 24 [.ref (x0), .int (x1), .int (14 + x1)] [] h)) : lx_X1_loanFlow nc C Q 0 [.ref (x0), .int (x1), tf_z] [] h := by
  obtain ⟨Bx0, ⟨Kx0_1, Kx0_2, Kx0_3, Kx0_4, Kx0_5, Kx0_6, Kx0_7, Kx0_8, Kx0_9, Kx0_10, Kx0_11, Kx0_12, Kx0_13, Kx0_14⟩, ⟨Nx0_1, Nx0_2, Nx0_3, Nx0_4, Nx0_5, Nx0_6, Nx0_7, Nx0_8, Nx0_9, Nx0_10, Nx0_12, Nx0_13, Nx0_14⟩⟩ := tn_net Kx0_0
  refine tf_LW_go ?_
  show (tf_K x0 = 0 ∧ x0 < nc) ∧ (tf_K (tf_R x0 4) = 8 ∧ (tf_R x0 4) < nc ∧ vp_in (14 + x1) (tf_N (tf_R x0 4))) ∧ ((h.1 (tf_R x0 4) (14 + x1 : Int32).toNatClampNeg) = x1 → (tf_K x0 = 0 ∧ x0 < nc) ∧ (tf_K (tf_R x0 8) = 8 ∧ (tf_R x0 8) < nc ∧ vp_in (14 + x1) (tf_N (tf_R x0 8))) ∧ lx_X1_loanFlow nc C Q 31 [.ref (x0), .int (x1), .int (14 + x1)] [.int (h.1 (tf_R x0 8) (14 + x1 : Int32).toNatClampNeg)] h) ∧ (¬ (h.1 (tf_R x0 4) (14 + x1 : Int32).toNatClampNeg) = x1 → lx_X1_loanFlow nc C Q 24 [.ref (x0), .int (x1), .int (14 + x1)] [] h)
  try simp only [(show tf_R x0 4 = x0 + 2 by rw [tn_R0 Kx0_0]; try omega), (show tf_R x0 8 = x0 + 6 by rw [tn_R0 Kx0_0]; try omega), Nx0_2, Nx0_6]
  exact ⟨⟨Kx0_0, (show x0 < nc by omega)⟩, ⟨⟨Kx0_2, (show x0 + 2 < nc by omega), q.1⟩, ⟨fun c1 => ⟨⟨Kx0_0, (show x0 < nc by omega)⟩, ⟨⟨Kx0_6, (show x0 + 6 < nc by omega), (q.2.1 c1).1⟩, (q.2.1 c1).2⟩⟩, q.2.2⟩⟩⟩
theorem en_X1_loanFlow {nc d : Nat} {Q : tf_Q} {h : LH} (hn : 270 ≤ nc) {x0 : Nat} {x1 : Int32} (Kx0_0 : tf_K x0 = 0) (q : lx_X1_loanFlow nc (tf_Cd nc d) Q 0 [.ref (x0), .int (x1), tf_z] [] h) : tf_Cd nc (d + 1) 140 [.ref (x0), .int (x1)] h Q := by
  obtain ⟨Bx0, ⟨Kx0_1, Kx0_2, Kx0_3, Kx0_4, Kx0_5, Kx0_6, Kx0_7, Kx0_8, Kx0_9, Kx0_10, Kx0_11, Kx0_12, Kx0_13, Kx0_14⟩, ⟨Nx0_1, Nx0_2, Nx0_3, Nx0_4, Nx0_5, Nx0_6, Nx0_7, Nx0_8, Nx0_9, Nx0_10, Nx0_12, Nx0_13, Nx0_14⟩⟩ := tn_net Kx0_0
  exact ⟨⟨Nat.le_of_ble_eq_true rfl, Or.inr ⟨Kx0_0, (show x0 < nc by omega)⟩⟩, q⟩
set_option maxRecDepth 100000 in
theorem go_X1_loanFlow_24 {nc : Nat} {C : tf_C} {Q : tf_Q} {h : LH} (hn : 270 ≤ nc) {x0 : Nat} {x1 : Int32} {x2 : Int32} (Kx0_0 : tf_K x0 = 0) (q : (vp_in x2 21) ∧ lx_X1_loanFlow nc C Q 31 [.ref (x0), .int (x1), .int (x2)] [.int (-(h.1 (x0 + 6) (x2 : Int32).toNatClampNeg))] h) : lx_X1_loanFlow nc C Q 24 [.ref (x0), .int (x1), .int (x2)] [] h := by
  obtain ⟨Bx0, ⟨Kx0_1, Kx0_2, Kx0_3, Kx0_4, Kx0_5, Kx0_6, Kx0_7, Kx0_8, Kx0_9, Kx0_10, Kx0_11, Kx0_12, Kx0_13, Kx0_14⟩, ⟨Nx0_1, Nx0_2, Nx0_3, Nx0_4, Nx0_5, Nx0_6, Nx0_7, Nx0_8, Nx0_9, Nx0_10, Nx0_12, Nx0_13, Nx0_14⟩⟩ := tn_net Kx0_0
  refine tf_LW_go ?_
  show (tf_K x0 = 0 ∧ x0 < nc) ∧ (tf_K (tf_R x0 8) = 8 ∧ (tf_R x0 8) < nc ∧ vp_in x2 (tf_N (tf_R x0 8))) ∧ lx_X1_loanFlow nc C Q 31 [.ref (x0), .int (x1), .int (x2)] [.int (-(h.1 (tf_R x0 8) (x2 : Int32).toNatClampNeg))] h
  try simp only [(show tf_R x0 8 = x0 + 6 by rw [tn_R0 Kx0_0]; try omega), Nx0_6]
  exact ⟨⟨Kx0_0, (show x0 < nc by omega)⟩, ⟨⟨Kx0_6, (show x0 + 6 < nc by omega), q.1⟩, q.2⟩⟩
set_option maxRecDepth 100000 in
theorem go_X1_loanFlow_31 {nc : Nat} {C : tf_C} {Q : tf_Q} {h : LH} (hn : 270 ≤ nc) {x0 : Nat} {x1 : Int32} {x2 : Int32} {y0 : Int32} (Kx0_0 : tf_K x0 = 0) (q : Q (.int (y0)) h) : lx_X1_loanFlow nc C Q 31 [.ref (x0), .int (x1), .int (x2)] [.int (y0)] h := by
  obtain ⟨Bx0, ⟨Kx0_1, Kx0_2, Kx0_3, Kx0_4, Kx0_5, Kx0_6, Kx0_7, Kx0_8, Kx0_9, Kx0_10, Kx0_11, Kx0_12, Kx0_13, Kx0_14⟩, ⟨Nx0_1, Nx0_2, Nx0_3, Nx0_4, Nx0_5, Nx0_6, Nx0_7, Nx0_8, Nx0_9, Nx0_10, Nx0_12, Nx0_13, Nx0_14⟩⟩ := tn_net Kx0_0
  refine tf_LW_go ?_
  exact ⟨(by first | trivial | rfl), q⟩
abbrev lx_X1_childBehind (nc : Nat) (C : tf_C) (Q : tf_Q) : tf_X := tf_LW nc C (tf_F 0) (tf_M 0) (tf_I 0) (tf_Eh 141) 1 tb_X1_childBehind Q
set_option maxRecDepth 100000 in
theorem go_X1_childBehind_0 {nc : Nat} {C : tf_C} {Q : tf_Q} {h : LH} (hn : 270 ≤ nc) {x0 : Nat} {x1 : Int32} {x2 : Int32} (Kx0_0 : tf_K x0 = 0) (q : lx_X1_childBehind nc C Q 4 [.ref (x0), .int (x1), .int (x2), .int (x2 + 1)] [] h) : lx_X1_childBehind nc C Q 0 [.ref (x0), .int (x1), .int (x2), tf_z] [] h := by
  obtain ⟨Bx0, ⟨Kx0_1, Kx0_2, Kx0_3, Kx0_4, Kx0_5, Kx0_6, Kx0_7, Kx0_8, Kx0_9, Kx0_10, Kx0_11, Kx0_12, Kx0_13, Kx0_14⟩, ⟨Nx0_1, Nx0_2, Nx0_3, Nx0_4, Nx0_5, Nx0_6, Nx0_7, Nx0_8, Nx0_9, Nx0_10, Nx0_12, Nx0_13, Nx0_14⟩⟩ := tn_net Kx0_0
  refine tf_LW_go ?_
  exact q
theorem en_X1_childBehind {nc d : Nat} {Q : tf_Q} {h : LH} (hn : 270 ≤ nc) {x0 : Nat} {x1 : Int32} {x2 : Int32} (Kx0_0 : tf_K x0 = 0) (q : lx_X1_childBehind nc (tf_Cd nc d) Q 0 [.ref (x0), .int (x1), .int (x2), tf_z] [] h) : tf_Cd nc (d + 1) 141 [.ref (x0), .int (x1), .int (x2)] h Q := by
  obtain ⟨Bx0, ⟨Kx0_1, Kx0_2, Kx0_3, Kx0_4, Kx0_5, Kx0_6, Kx0_7, Kx0_8, Kx0_9, Kx0_10, Kx0_11, Kx0_12, Kx0_13, Kx0_14⟩, ⟨Nx0_1, Nx0_2, Nx0_3, Nx0_4, Nx0_5, Nx0_6, Nx0_7, Nx0_8, Nx0_9, Nx0_10, Nx0_12, Nx0_13, Nx0_14⟩⟩ := tn_net Kx0_0
  exact ⟨⟨Nat.le_of_ble_eq_true rfl, Or.inr ⟨Kx0_0, (show x0 < nc by omega)⟩⟩, q⟩
set_option maxRecDepth 100000 in
theorem go_X1_childBehind_4 {nc : Nat} {C : tf_C} {Q : tf_Q} {h : LH} (hn : 270 ≤ nc) {x0 : Nat} {x1 : Int32} {x2 : Int32} {x3 : Int32} (Kx0_0 : tf_K x0 = 0) (q : ((h.1 x0 0) ≤ x3 → lx_X1_childBehind nc C Q 30 [.ref (x0), .int (x1), .int (x2), .int (x3)] [] h) ∧ (¬ (h.1 x0 0) ≤ x3 → (vp_in x3 7) ∧ ((h.1 (x0 + 8) (x3 : Int32).toNatClampNeg) = x1 → Q (.int (x3)) h) ∧ (¬ (h.1 (x0 + 8) (x3 : Int32).toNatClampNeg) = x1 → lx_X1_childBehind nc C Q 24 [.ref (x0), .int (x1), .int (x2), .int (x3)] [] h))) : lx_X1_childBehind nc C Q 4 [.ref (x0), .int (x1), .int (x2), .int (x3)] [] h := by
  obtain ⟨Bx0, ⟨Kx0_1, Kx0_2, Kx0_3, Kx0_4, Kx0_5, Kx0_6, Kx0_7, Kx0_8, Kx0_9, Kx0_10, Kx0_11, Kx0_12, Kx0_13, Kx0_14⟩, ⟨Nx0_1, Nx0_2, Nx0_3, Nx0_4, Nx0_5, Nx0_6, Nx0_7, Nx0_8, Nx0_9, Nx0_10, Nx0_12, Nx0_13, Nx0_14⟩⟩ := tn_net Kx0_0
  refine tf_LW_go ?_
  show (tf_K x0 = 0 ∧ x0 < nc) ∧ ((h.1 x0 0) ≤ x3 → lx_X1_childBehind nc C Q 30 [.ref (x0), .int (x1), .int (x2), .int (x3)] [] h) ∧ (¬ (h.1 x0 0) ≤ x3 → (tf_K x0 = 0 ∧ x0 < nc) ∧ (tf_K (tf_R x0 10) = 8 ∧ (tf_R x0 10) < nc ∧ vp_in x3 (tf_N (tf_R x0 10))) ∧ ((h.1 (tf_R x0 10) (x3 : Int32).toNatClampNeg) = x1 → tf_rb 1 (x3) ∧ Q (.int (x3)) h) ∧ (¬ (h.1 (tf_R x0 10) (x3 : Int32).toNatClampNeg) = x1 → lx_X1_childBehind nc C Q 24 [.ref (x0), .int (x1), .int (x2), .int (x3)] [] h))
  try simp only [(show tf_R x0 10 = x0 + 8 by rw [tn_R0 Kx0_0]; try omega), Nx0_8]
  exact ⟨⟨Kx0_0, (show x0 < nc by omega)⟩, ⟨q.1, fun c2 => ⟨⟨Kx0_0, (show x0 < nc by omega)⟩, ⟨⟨Kx0_8, (show x0 + 8 < nc by omega), (q.2 c2).1⟩, ⟨fun c1 => ⟨(by first | trivial | rfl), ((q.2 c2).2.1 c1)⟩, (q.2 c2).2.2⟩⟩⟩⟩⟩
set_option maxRecDepth 100000 in
theorem go_X1_childBehind_24 {nc : Nat} {C : tf_C} {Q : tf_Q} {h : LH} (hn : 270 ≤ nc) {x0 : Nat} {x1 : Int32} {x2 : Int32} {x3 : Int32} (Kx0_0 : tf_K x0 = 0) (q : lx_X1_childBehind nc C Q 4 [.ref (x0), .int (x1), .int (x2), .int (x3 + 1)] [] h) : lx_X1_childBehind nc C Q 24 [.ref (x0), .int (x1), .int (x2), .int (x3)] [] h := by
  obtain ⟨Bx0, ⟨Kx0_1, Kx0_2, Kx0_3, Kx0_4, Kx0_5, Kx0_6, Kx0_7, Kx0_8, Kx0_9, Kx0_10, Kx0_11, Kx0_12, Kx0_13, Kx0_14⟩, ⟨Nx0_1, Nx0_2, Nx0_3, Nx0_4, Nx0_5, Nx0_6, Nx0_7, Nx0_8, Nx0_9, Nx0_10, Nx0_12, Nx0_13, Nx0_14⟩⟩ := tn_net Kx0_0
  refine tf_LW_go ?_
  exact q
set_option maxRecDepth 100000 in
theorem go_X1_childBehind_30 {nc : Nat} {C : tf_C} {Q : tf_Q} {h : LH} (hn : 270 ≤ nc) {x0 : Nat} {x1 : Int32} {x2 : Int32} {x3 : Int32} (Kx0_0 : tf_K x0 = 0) (q : Q (.int ((-1))) h) : lx_X1_childBehind nc C Q 30 [.ref (x0), .int (x1), .int (x2), .int (x3)] [] h := by
  obtain ⟨Bx0, ⟨Kx0_1, Kx0_2, Kx0_3, Kx0_4, Kx0_5, Kx0_6, Kx0_7, Kx0_8, Kx0_9, Kx0_10, Kx0_11, Kx0_12, Kx0_13, Kx0_14⟩, ⟨Nx0_1, Nx0_2, Nx0_3, Nx0_4, Nx0_5, Nx0_6, Nx0_7, Nx0_8, Nx0_9, Nx0_10, Nx0_12, Nx0_13, Nx0_14⟩⟩ := tn_net Kx0_0
  refine tf_LW_go ?_
  exact ⟨(by first | trivial | rfl), q⟩
abbrev lx_X1_threadBehind (nc : Nat) (C : tf_C) (Q : tf_Q) : tf_X := tf_LW nc C (tf_F 0) (tf_M 0) (tf_I 0) (tf_Eh 142) 1 tb_X1_threadBehind Q
set_option maxRecDepth 100000 in
theorem go_X1_threadBehind_0 {nc : Nat} {C : tf_C} {Q : tf_Q} {h : LH} (hn : 270 ≤ nc) {x0 : Nat} {x1 : Int32} (Kx0_0 : tf_K x0 = 0) (q : C 141 [.ref (x0), .int (x1), .int ((-1))] h (fun r g => lx_X1_threadBehind nc C Q 6 [.ref (x0), .int (x1), tf_z, tf_z, tf_z] (r :: []) g)) : lx_X1_threadBehind nc C Q 0 [.ref (x0), .int (x1), tf_z, tf_z, tf_z] [] h := by
  obtain ⟨Bx0, ⟨Kx0_1, Kx0_2, Kx0_3, Kx0_4, Kx0_5, Kx0_6, Kx0_7, Kx0_8, Kx0_9, Kx0_10, Kx0_11, Kx0_12, Kx0_13, Kx0_14⟩, ⟨Nx0_1, Nx0_2, Nx0_3, Nx0_4, Nx0_5, Nx0_6, Nx0_7, Nx0_8, Nx0_9, Nx0_10, Nx0_12, Nx0_13, Nx0_14⟩⟩ := tn_net Kx0_0
  refine tf_LW_go ?_
  exact ⟨Nat.le_of_ble_eq_true rfl, Nat.le_of_ble_eq_true rfl, q⟩
theorem en_X1_threadBehind {nc d : Nat} {Q : tf_Q} {h : LH} (hn : 270 ≤ nc) {x0 : Nat} {x1 : Int32} (Kx0_0 : tf_K x0 = 0) (q : lx_X1_threadBehind nc (tf_Cd nc d) Q 0 [.ref (x0), .int (x1), tf_z, tf_z, tf_z] [] h) : tf_Cd nc (d + 1) 142 [.ref (x0), .int (x1)] h Q := by
  obtain ⟨Bx0, ⟨Kx0_1, Kx0_2, Kx0_3, Kx0_4, Kx0_5, Kx0_6, Kx0_7, Kx0_8, Kx0_9, Kx0_10, Kx0_11, Kx0_12, Kx0_13, Kx0_14⟩, ⟨Nx0_1, Nx0_2, Nx0_3, Nx0_4, Nx0_5, Nx0_6, Nx0_7, Nx0_8, Nx0_9, Nx0_10, Nx0_12, Nx0_13, Nx0_14⟩⟩ := tn_net Kx0_0
  exact ⟨⟨Nat.le_of_ble_eq_true rfl, Or.inr ⟨Kx0_0, (show x0 < nc by omega)⟩⟩, q⟩
set_option maxRecDepth 100000 in
theorem go_X1_threadBehind_6 {nc : Nat} {C : tf_C} {Q : tf_Q} {h : LH} (hn : 270 ≤ nc) {x0 : Nat} {x1 : Int32} {y0 : Int32} (Kx0_0 : tf_K x0 = 0) (q : lx_X1_threadBehind nc C Q 12 [.ref (x0), .int (x1), .int (y0), .int (x1), .int (0)] [] h) : lx_X1_threadBehind nc C Q 6 [.ref (x0), .int (x1), tf_z, tf_z, tf_z] [.int (y0)] h := by
  obtain ⟨Bx0, ⟨Kx0_1, Kx0_2, Kx0_3, Kx0_4, Kx0_5, Kx0_6, Kx0_7, Kx0_8, Kx0_9, Kx0_10, Kx0_11, Kx0_12, Kx0_13, Kx0_14⟩, ⟨Nx0_1, Nx0_2, Nx0_3, Nx0_4, Nx0_5, Nx0_6, Nx0_7, Nx0_8, Nx0_9, Nx0_10, Nx0_12, Nx0_13, Nx0_14⟩⟩ := tn_net Kx0_0
  refine tf_LW_go ?_
  exact q
set_option maxRecDepth 100000 in
theorem go_X1_threadBehind_12 {nc : Nat} {C : tf_C} {Q : tf_Q} {h : LH} (hn : 270 ≤ nc) {x0 : Nat} {x1 : Int32} {x2 : Int32} {x3 : Int32} {x4 : Int32} (Kx0_0 : tf_K x0 = 0) (q : ((h.1 x0 0) ≤ x4 → lx_X1_threadBehind nc C Q 62 [.ref (x0), .int (x1), .int (x2), .int (x3), .int (x4)] [] h) ∧ (¬ (h.1 x0 0) ≤ x4 → (x2 = ((-1) : Int32) → (x3 = ((-1) : Int32) → lx_X1_threadBehind nc C Q 62 [.ref (x0), .int (x1), .int (x2), .int (x3), .int (x4)] [] h) ∧ (¬ x3 = ((-1) : Int32) → (x3 = (7 : Int32) → lx_X1_threadBehind nc C Q 62 [.ref (x0), .int (x1), .int (x2), .int (x3), .int (x4)] [] h) ∧ (¬ x3 = (7 : Int32) → (vp_in x3 7) ∧ C 141 [.ref (x0), .int (h.1 (x0 + 8) (x3 : Int32).toNatClampNeg), .int (x3)] h (fun r g => lx_X1_threadBehind nc C Q 48 [.ref (x0), .int (x1), .int (x2), .int (x3), .int (x4)] (r :: []) g)))) ∧ (¬ x2 = ((-1) : Int32) → lx_X1_threadBehind nc C Q 62 [.ref (x0), .int (x1), .int (x2), .int (x3), .int (x4)] [] h))) : lx_X1_threadBehind nc C Q 12 [.ref (x0), .int (x1), .int (x2), .int (x3), .int (x4)] [] h := by
  obtain ⟨Bx0, ⟨Kx0_1, Kx0_2, Kx0_3, Kx0_4, Kx0_5, Kx0_6, Kx0_7, Kx0_8, Kx0_9, Kx0_10, Kx0_11, Kx0_12, Kx0_13, Kx0_14⟩, ⟨Nx0_1, Nx0_2, Nx0_3, Nx0_4, Nx0_5, Nx0_6, Nx0_7, Nx0_8, Nx0_9, Nx0_10, Nx0_12, Nx0_13, Nx0_14⟩⟩ := tn_net Kx0_0
  refine tf_LW_go ?_
  show (tf_K x0 = 0 ∧ x0 < nc) ∧ ((h.1 x0 0) ≤ x4 → lx_X1_threadBehind nc C Q 62 [.ref (x0), .int (x1), .int (x2), .int (x3), .int (x4)] [] h) ∧ (¬ (h.1 x0 0) ≤ x4 → (x2 = ((-1) : Int32) → (x3 = ((-1) : Int32) → lx_X1_threadBehind nc C Q 62 [.ref (x0), .int (x1), .int (x2), .int (x3), .int (x4)] [] h) ∧ (¬ x3 = ((-1) : Int32) → (x3 = (7 : Int32) → lx_X1_threadBehind nc C Q 62 [.ref (x0), .int (x1), .int (x2), .int (x3), .int (x4)] [] h) ∧ (¬ x3 = (7 : Int32) → (tf_K x0 = 0 ∧ x0 < nc) ∧ (tf_K (tf_R x0 10) = 8 ∧ (tf_R x0 10) < nc ∧ vp_in x3 (tf_N (tf_R x0 10))) ∧ 3 ≤ 3 ∧ 0 ≤ 8 ∧ C 141 [.ref (x0), .int (h.1 (tf_R x0 10) (x3 : Int32).toNatClampNeg), .int (x3)] h (fun r g => lx_X1_threadBehind nc C Q 48 [.ref (x0), .int (x1), .int (x2), .int (x3), .int (x4)] (r :: []) g)))) ∧ (¬ x2 = ((-1) : Int32) → lx_X1_threadBehind nc C Q 62 [.ref (x0), .int (x1), .int (x2), .int (x3), .int (x4)] [] h))
  try simp only [(show tf_R x0 10 = x0 + 8 by rw [tn_R0 Kx0_0]; try omega), Nx0_8]
  exact ⟨⟨Kx0_0, (show x0 < nc by omega)⟩, ⟨q.1, fun c4 => ⟨fun c3 => ⟨((q.2 c4).1 c3).1, fun c2 => ⟨(((q.2 c4).1 c3).2 c2).1, fun c1 => ⟨⟨Kx0_0, (show x0 < nc by omega)⟩, ⟨⟨Kx0_8, (show x0 + 8 < nc by omega), ((((q.2 c4).1 c3).2 c2).2 c1).1⟩, ⟨Nat.le_of_ble_eq_true rfl, Nat.le_of_ble_eq_true rfl, ((((q.2 c4).1 c3).2 c2).2 c1).2⟩⟩⟩⟩⟩, (q.2 c4).2⟩⟩⟩
set_option maxRecDepth 100000 in
theorem go_X1_threadBehind_48 {nc : Nat} {C : tf_C} {Q : tf_Q} {h : LH} (hn : 270 ≤ nc) {x0 : Nat} {x1 : Int32} {x2 : Int32} {x3 : Int32} {x4 : Int32} {y0 : Int32} (Kx0_0 : tf_K x0 = 0) (q : (vp_in x3 7) ∧ lx_X1_threadBehind nc C Q 12 [.ref (x0), .int (x1), .int (y0), .int (h.1 (x0 + 8) (x3 : Int32).toNatClampNeg), .int (x4 + 1)] [] h) : lx_X1_threadBehind nc C Q 48 [.ref (x0), .int (x1), .int (x2), .int (x3), .int (x4)] [.int (y0)] h := by
  obtain ⟨Bx0, ⟨Kx0_1, Kx0_2, Kx0_3, Kx0_4, Kx0_5, Kx0_6, Kx0_7, Kx0_8, Kx0_9, Kx0_10, Kx0_11, Kx0_12, Kx0_13, Kx0_14⟩, ⟨Nx0_1, Nx0_2, Nx0_3, Nx0_4, Nx0_5, Nx0_6, Nx0_7, Nx0_8, Nx0_9, Nx0_10, Nx0_12, Nx0_13, Nx0_14⟩⟩ := tn_net Kx0_0
  refine tf_LW_go ?_
  show (tf_K x0 = 0 ∧ x0 < nc) ∧ (tf_K (tf_R x0 10) = 8 ∧ (tf_R x0 10) < nc ∧ vp_in x3 (tf_N (tf_R x0 10))) ∧ lx_X1_threadBehind nc C Q 12 [.ref (x0), .int (x1), .int (y0), .int (h.1 (tf_R x0 10) (x3 : Int32).toNatClampNeg), .int (x4 + 1)] [] h
  try simp only [(show tf_R x0 10 = x0 + 8 by rw [tn_R0 Kx0_0]; try omega), Nx0_8]
  exact ⟨⟨Kx0_0, (show x0 < nc by omega)⟩, ⟨⟨Kx0_8, (show x0 + 8 < nc by omega), q.1⟩, q.2⟩⟩
set_option maxRecDepth 100000 in
theorem go_X1_threadBehind_62 {nc : Nat} {C : tf_C} {Q : tf_Q} {h : LH} (hn : 270 ≤ nc) {x0 : Nat} {x1 : Int32} {x2 : Int32} {x3 : Int32} {x4 : Int32} (Kx0_0 : tf_K x0 = 0) (q : Q (.int (x2)) h) : lx_X1_threadBehind nc C Q 62 [.ref (x0), .int (x1), .int (x2), .int (x3), .int (x4)] [] h := by
  obtain ⟨Bx0, ⟨Kx0_1, Kx0_2, Kx0_3, Kx0_4, Kx0_5, Kx0_6, Kx0_7, Kx0_8, Kx0_9, Kx0_10, Kx0_11, Kx0_12, Kx0_13, Kx0_14⟩, ⟨Nx0_1, Nx0_2, Nx0_3, Nx0_4, Nx0_5, Nx0_6, Nx0_7, Nx0_8, Nx0_9, Nx0_10, Nx0_12, Nx0_13, Nx0_14⟩⟩ := tn_net Kx0_0
  refine tf_LW_go ?_
  exact ⟨(by first | trivial | rfl), q⟩
abbrev lx_X1_rehang (nc : Nat) (C : tf_C) (Q : tf_Q) : tf_X := tf_LW nc C (tf_F 0) (tf_M 0) (tf_I 0) (tf_Eh 143) 0 tb_X1_rehang Q
set_option maxRecDepth 100000 in
theorem go_X1_rehang_0 {nc : Nat} {C : tf_C} {Q : tf_Q} {h : LH} (hn : 270 ≤ nc) {x0 : Nat} {x1 : Int32} {x2 : Int32} {x3 : Int32} {x4 : Int32} (Kx0_0 : tf_K x0 = 0) (q : lx_X1_rehang nc C Q 12 [.ref (x0), .int (x1), .int (x2), .int (x3), .int (x4), .int (x1), .int (x2), .int (x3), .int (0), tf_z, tf_z] [] h) : lx_X1_rehang nc C Q 0 [.ref (x0), .int (x1), .int (x2), .int (x3), .int (x4), tf_z, tf_z, tf_z, tf_z, tf_z, tf_z] [] h := by
  obtain ⟨Bx0, ⟨Kx0_1, Kx0_2, Kx0_3, Kx0_4, Kx0_5, Kx0_6, Kx0_7, Kx0_8, Kx0_9, Kx0_10, Kx0_11, Kx0_12, Kx0_13, Kx0_14⟩, ⟨Nx0_1, Nx0_2, Nx0_3, Nx0_4, Nx0_5, Nx0_6, Nx0_7, Nx0_8, Nx0_9, Nx0_10, Nx0_12, Nx0_13, Nx0_14⟩⟩ := tn_net Kx0_0
  refine tf_LW_go ?_
  exact q
theorem en_X1_rehang {nc d : Nat} {Q : tf_Q} {h : LH} (hn : 270 ≤ nc) {x0 : Nat} {x1 : Int32} {x2 : Int32} {x3 : Int32} {x4 : Int32} (Kx0_0 : tf_K x0 = 0) (q : lx_X1_rehang nc (tf_Cd nc d) Q 0 [.ref (x0), .int (x1), .int (x2), .int (x3), .int (x4), tf_z, tf_z, tf_z, tf_z, tf_z, tf_z] [] h) : tf_Cd nc (d + 1) 143 [.ref (x0), .int (x1), .int (x2), .int (x3), .int (x4)] h Q := by
  obtain ⟨Bx0, ⟨Kx0_1, Kx0_2, Kx0_3, Kx0_4, Kx0_5, Kx0_6, Kx0_7, Kx0_8, Kx0_9, Kx0_10, Kx0_11, Kx0_12, Kx0_13, Kx0_14⟩, ⟨Nx0_1, Nx0_2, Nx0_3, Nx0_4, Nx0_5, Nx0_6, Nx0_7, Nx0_8, Nx0_9, Nx0_10, Nx0_12, Nx0_13, Nx0_14⟩⟩ := tn_net Kx0_0
  exact ⟨⟨Nat.le_of_ble_eq_true rfl, Or.inr ⟨Kx0_0, (show x0 < nc by omega)⟩⟩, q⟩
set_option maxRecDepth 100000 in
theorem go_X1_rehang_12 {nc : Nat} {C : tf_C} {Q : tf_Q} {h : LH} (hn : 270 ≤ nc) {x0 : Nat} {x1 : Int32} {x2 : Int32} {x3 : Int32} {x4 : Int32} {x5 : Int32} {x6 : Int32} {x7 : Int32} {x8 : Int32} {x9 : Value} {x10 : Value} (Kx0_0 : tf_K x0 = 0) (q : ((h.1 x0 0) ≤ x8 → lx_X1_rehang nc C Q 92 [.ref (x0), .int (x1), .int (x2), .int (x3), .int (x4), .int (x5), .int (x6), .int (x7), .int (x8), x9, x10] [] h) ∧ (¬ (h.1 x0 0) ≤ x8 → (x5 = (7 : Int32) → lx_X1_rehang nc C Q 92 [.ref (x0), .int (x1), .int (x2), .int (x3), .int (x4), .int (x5), .int (x6), .int (x7), .int (x8), x9, x10] [] h) ∧ (¬ x5 = (7 : Int32) → (vp_in x5 7) ∧ (vp_in x5 7) ∧ (vp_in x5 7) ∧ (vp_in x5 7) ∧ ((h.1 (x0 + 9) (x5 : Int32).toNatClampNeg) = x4 → lx_X1_rehang nc C Q 92 [.ref (x0), .int (x1), .int (x2), .int (x3), .int (x4), .int (x5), .int (x6), .int (x7), .int (x8), .int (h.1 (x0 + 8) (x5 : Int32).toNatClampNeg), .int (h.1 (x0 + 9) (x5 : Int32).toNatClampNeg)] [] (tf_up (tf_up h.1 (x0 + 8) (x5 : Int32).toNatClampNeg x6) (x0 + 9) (x5 : Int32).toNatClampNeg x7, h.2)) ∧ (¬ (h.1 (x0 + 9) (x5 : Int32).toNatClampNeg) = x4 → lx_X1_rehang nc C Q 74 [.ref (x0), .int (x1), .int (x2), .int (x3), .int (x4), .int (x5), .int (x6), .int (x7), .int (x8), .int (h.1 (x0 + 8) (x5 : Int32).toNatClampNeg), .int (h.1 (x0 + 9) (x5 : Int32).toNatClampNeg)] [] (tf_up (tf_up h.1 (x0 + 8) (x5 : Int32).toNatClampNeg x6) (x0 + 9) (x5 : Int32).toNatClampNeg x7, h.2))))) : lx_X1_rehang nc C Q 12 [.ref (x0), .int (x1), .int (x2), .int (x3), .int (x4), .int (x5), .int (x6), .int (x7), .int (x8), x9, x10] [] h := by
  obtain ⟨Bx0, ⟨Kx0_1, Kx0_2, Kx0_3, Kx0_4, Kx0_5, Kx0_6, Kx0_7, Kx0_8, Kx0_9, Kx0_10, Kx0_11, Kx0_12, Kx0_13, Kx0_14⟩, ⟨Nx0_1, Nx0_2, Nx0_3, Nx0_4, Nx0_5, Nx0_6, Nx0_7, Nx0_8, Nx0_9, Nx0_10, Nx0_12, Nx0_13, Nx0_14⟩⟩ := tn_net Kx0_0
  refine tf_LW_go ?_
  show (tf_K x0 = 0 ∧ x0 < nc) ∧ ((h.1 x0 0) ≤ x8 → lx_X1_rehang nc C Q 92 [.ref (x0), .int (x1), .int (x2), .int (x3), .int (x4), .int (x5), .int (x6), .int (x7), .int (x8), x9, x10] [] h) ∧ (¬ (h.1 x0 0) ≤ x8 → (x5 = (7 : Int32) → lx_X1_rehang nc C Q 92 [.ref (x0), .int (x1), .int (x2), .int (x3), .int (x4), .int (x5), .int (x6), .int (x7), .int (x8), x9, x10] [] h) ∧ (¬ x5 = (7 : Int32) → (tf_K x0 = 0 ∧ x0 < nc) ∧ (tf_K (tf_R x0 10) = 8 ∧ (tf_R x0 10) < nc ∧ vp_in x5 (tf_N (tf_R x0 10))) ∧ (tf_K x0 = 0 ∧ x0 < nc) ∧ (tf_K (tf_R x0 11) = 8 ∧ (tf_R x0 11) < nc ∧ vp_in x5 (tf_N (tf_R x0 11))) ∧ (tf_K x0 = 0 ∧ x0 < nc) ∧ (tf_K (tf_R x0 10) = 8 ∧ (tf_R x0 10) < nc ∧ vp_in x5 (tf_N (tf_R x0 10))) ∧ (tf_K x0 = 0 ∧ x0 < nc) ∧ (tf_K (tf_R x0 11) = 8 ∧ (tf_R x0 11) < nc ∧ vp_in x5 (tf_N (tf_R x0 11))) ∧ ((h.1 (tf_R x0 11) (x5 : Int32).toNatClampNeg) = x4 → lx_X1_rehang nc C Q 92 [.ref (x0), .int (x1), .int (x2), .int (x3), .int (x4), .int (x5), .int (x6), .int (x7), .int (x8), .int (h.1 (tf_R x0 10) (x5 : Int32).toNatClampNeg), .int (h.1 (tf_R x0 11) (x5 : Int32).toNatClampNeg)] [] (tf_up (tf_up h.1 (tf_R x0 10) (x5 : Int32).toNatClampNeg x6) (tf_R x0 11) (x5 : Int32).toNatClampNeg x7, h.2)) ∧ (¬ (h.1 (tf_R x0 11) (x5 : Int32).toNatClampNeg) = x4 → lx_X1_rehang nc C Q 74 [.ref (x0), .int (x1), .int (x2), .int (x3), .int (x4), .int (x5), .int (x6), .int (x7), .int (x8), .int (h.1 (tf_R x0 10) (x5 : Int32).toNatClampNeg), .int (h.1 (tf_R x0 11) (x5 : Int32).toNatClampNeg)] [] (tf_up (tf_up h.1 (tf_R x0 10) (x5 : Int32).toNatClampNeg x6) (tf_R x0 11) (x5 : Int32).toNatClampNeg x7, h.2))))
  try simp only [(show tf_R x0 10 = x0 + 8 by rw [tn_R0 Kx0_0]; try omega), (show tf_R x0 11 = x0 + 9 by rw [tn_R0 Kx0_0]; try omega), Nx0_8, Nx0_9]
  exact ⟨⟨Kx0_0, (show x0 < nc by omega)⟩, ⟨q.1, fun c3 => ⟨(q.2 c3).1, fun c2 => ⟨⟨Kx0_0, (show x0 < nc by omega)⟩, ⟨⟨Kx0_8, (show x0 + 8 < nc by omega), ((q.2 c3).2 c2).1⟩, ⟨⟨Kx0_0, (show x0 < nc by omega)⟩, ⟨⟨Kx0_9, (show x0 + 9 < nc by omega), ((q.2 c3).2 c2).2.1⟩, ⟨⟨Kx0_0, (show x0 < nc by omega)⟩, ⟨⟨Kx0_8, (show x0 + 8 < nc by omega), ((q.2 c3).2 c2).2.2.1⟩, ⟨⟨Kx0_0, (show x0 < nc by omega)⟩, ⟨⟨Kx0_9, (show x0 + 9 < nc by omega), ((q.2 c3).2 c2).2.2.2.1⟩, ⟨fun c1 => (((q.2 c3).2 c2).2.2.2.2.1 c1), ((q.2 c3).2 c2).2.2.2.2.2⟩⟩⟩⟩⟩⟩⟩⟩⟩⟩⟩⟩
set_option maxRecDepth 100000 in
theorem go_X1_rehang_74 {nc : Nat} {C : tf_C} {Q : tf_Q} {h : LH} (hn : 270 ≤ nc) {x0 : Nat} {x1 : Int32} {x2 : Int32} {x3 : Int32} {x4 : Int32} {x5 : Int32} {x6 : Int32} {x7 : Int32} {x8 : Int32} {x9 : Int32} {x10 : Int32} (Kx0_0 : tf_K x0 = 0) (q : lx_X1_rehang nc C Q 12 [.ref (x0), .int (x1), .int (x2), .int (x3), .int (x4), .int (x9), .int (x5), .int (x10), .int (x8 + 1), .int (x9), .int (x10)] [] h) : lx_X1_rehang nc C Q 74 [.ref (x0), .int (x1), .int (x2), .int (x3), .int (x4), .int (x5), .int (x6), .int (x7), .int (x8), .int (x9), .int (x10)] [] h := by
  obtain ⟨Bx0, ⟨Kx0_1, Kx0_2, Kx0_3, Kx0_4, Kx0_5, Kx0_6, Kx0_7, Kx0_8, Kx0_9, Kx0_10, Kx0_11, Kx0_12, Kx0_13, Kx0_14⟩, ⟨Nx0_1, Nx0_2, Nx0_3, Nx0_4, Nx0_5, Nx0_6, Nx0_7, Nx0_8, Nx0_9, Nx0_10, Nx0_12, Nx0_13, Nx0_14⟩⟩ := tn_net Kx0_0
  refine tf_LW_go ?_
  exact q
set_option maxRecDepth 100000 in
theorem go_X1_rehang_92 {nc : Nat} {C : tf_C} {Q : tf_Q} {h : LH} (hn : 270 ≤ nc) {x0 : Nat} {x1 : Int32} {x2 : Int32} {x3 : Int32} {x4 : Int32} {x5 : Int32} {x6 : Int32} {x7 : Int32} {x8 : Int32} {x9 : Value} {x10 : Value} (Kx0_0 : tf_K x0 = 0) (q : Q tf_z h) : lx_X1_rehang nc C Q 92 [.ref (x0), .int (x1), .int (x2), .int (x3), .int (x4), .int (x5), .int (x6), .int (x7), .int (x8), x9, x10] [] h := by
  obtain ⟨Bx0, ⟨Kx0_1, Kx0_2, Kx0_3, Kx0_4, Kx0_5, Kx0_6, Kx0_7, Kx0_8, Kx0_9, Kx0_10, Kx0_11, Kx0_12, Kx0_13, Kx0_14⟩, ⟨Nx0_1, Nx0_2, Nx0_3, Nx0_4, Nx0_5, Nx0_6, Nx0_7, Nx0_8, Nx0_9, Nx0_10, Nx0_12, Nx0_13, Nx0_14⟩⟩ := tn_net Kx0_0
  refine tf_LW_go ?_
  exact ⟨(by first | rfl | trivial), q⟩
abbrev lx_X1_unmet (nc : Nat) (C : tf_C) (Q : tf_Q) : tf_X := tf_LW nc C (tf_F 0) (tf_M 0) (tf_I 0) (tf_Eh 144) 1 tb_X1_unmet Q
set_option maxRecDepth 100000 in
theorem go_X1_unmet_0 {nc : Nat} {C : tf_C} {Q : tf_Q} {h : LH} (hn : 270 ≤ nc) {x0 : Nat} (Kx0_0 : tf_K x0 = 0) (q : lx_X1_unmet nc C Q 4 [.ref (x0), .int (0), .int (0)] [] h) : lx_X1_unmet nc C Q 0 [.ref (x0), tf_z, tf_z] [] h := by
  obtain ⟨Bx0, ⟨Kx0_1, Kx0_2, Kx0_3, Kx0_4, Kx0_5, Kx0_6, Kx0_7, Kx0_8, Kx0_9, Kx0_10, Kx0_11, Kx0_12, Kx0_13, Kx0_14⟩, ⟨Nx0_1, Nx0_2, Nx0_3, Nx0_4, Nx0_5, Nx0_6, Nx0_7, Nx0_8, Nx0_9, Nx0_10, Nx0_12, Nx0_13, Nx0_14⟩⟩ := tn_net Kx0_0
  refine tf_LW_go ?_
  exact q
theorem en_X1_unmet {nc d : Nat} {Q : tf_Q} {h : LH} (hn : 270 ≤ nc) {x0 : Nat} (Kx0_0 : tf_K x0 = 0) (q : lx_X1_unmet nc (tf_Cd nc d) Q 0 [.ref (x0), tf_z, tf_z] [] h) : tf_Cd nc (d + 1) 144 [.ref (x0)] h Q := by
  obtain ⟨Bx0, ⟨Kx0_1, Kx0_2, Kx0_3, Kx0_4, Kx0_5, Kx0_6, Kx0_7, Kx0_8, Kx0_9, Kx0_10, Kx0_11, Kx0_12, Kx0_13, Kx0_14⟩, ⟨Nx0_1, Nx0_2, Nx0_3, Nx0_4, Nx0_5, Nx0_6, Nx0_7, Nx0_8, Nx0_9, Nx0_10, Nx0_12, Nx0_13, Nx0_14⟩⟩ := tn_net Kx0_0
  exact ⟨⟨Nat.le_of_ble_eq_true rfl, Or.inr ⟨Kx0_0, (show x0 < nc by omega)⟩⟩, q⟩
set_option maxRecDepth 100000 in
theorem go_X1_unmet_4 {nc : Nat} {C : tf_C} {Q : tf_Q} {h : LH} (hn : 270 ≤ nc) {x0 : Nat} {x1 : Int32} {x2 : Int32} (Kx0_0 : tf_K x0 = 0) (q : ((h.1 x0 0) ≤ x2 → lx_X1_unmet nc C Q 30 [.ref (x0), .int (x1), .int (x2)] [] h) ∧ (¬ (h.1 x0 0) ≤ x2 → (vp_in (14 + x2) 21) ∧ lx_X1_unmet nc C Q 4 [.ref (x0), .int (x1 + (h.1 (x0 + 6) (14 + x2 : Int32).toNatClampNeg)), .int (x2 + 1)] [] h)) : lx_X1_unmet nc C Q 4 [.ref (x0), .int (x1), .int (x2)] [] h := by
  obtain ⟨Bx0, ⟨Kx0_1, Kx0_2, Kx0_3, Kx0_4, Kx0_5, Kx0_6, Kx0_7, Kx0_8, Kx0_9, Kx0_10, Kx0_11, Kx0_12, Kx0_13, Kx0_14⟩, ⟨Nx0_1, Nx0_2, Nx0_3, Nx0_4, Nx0_5, Nx0_6, Nx0_7, Nx0_8, Nx0_9, Nx0_10, Nx0_12, Nx0_13, Nx0_14⟩⟩ := tn_net Kx0_0
  refine tf_LW_go ?_
  show (tf_K x0 = 0 ∧ x0 < nc) ∧ ((h.1 x0 0) ≤ x2 → lx_X1_unmet nc C Q 30 [.ref (x0), .int (x1), .int (x2)] [] h) ∧ (¬ (h.1 x0 0) ≤ x2 → (tf_K x0 = 0 ∧ x0 < nc) ∧ (tf_K (tf_R x0 8) = 8 ∧ (tf_R x0 8) < nc ∧ vp_in (14 + x2) (tf_N (tf_R x0 8))) ∧ lx_X1_unmet nc C Q 4 [.ref (x0), .int (x1 + (h.1 (tf_R x0 8) (14 + x2 : Int32).toNatClampNeg)), .int (x2 + 1)] [] h)
  try simp only [(show tf_R x0 8 = x0 + 6 by rw [tn_R0 Kx0_0]; try omega), Nx0_6]
  exact ⟨⟨Kx0_0, (show x0 < nc by omega)⟩, ⟨q.1, fun c1 => ⟨⟨Kx0_0, (show x0 < nc by omega)⟩, ⟨⟨Kx0_6, (show x0 + 6 < nc by omega), (q.2 c1).1⟩, (q.2 c1).2⟩⟩⟩⟩
set_option maxRecDepth 100000 in
theorem go_X1_unmet_30 {nc : Nat} {C : tf_C} {Q : tf_Q} {h : LH} (hn : 270 ≤ nc) {x0 : Nat} {x1 : Int32} {x2 : Int32} (Kx0_0 : tf_K x0 = 0) (q : Q (.int (x1)) h) : lx_X1_unmet nc C Q 30 [.ref (x0), .int (x1), .int (x2)] [] h := by
  obtain ⟨Bx0, ⟨Kx0_1, Kx0_2, Kx0_3, Kx0_4, Kx0_5, Kx0_6, Kx0_7, Kx0_8, Kx0_9, Kx0_10, Kx0_11, Kx0_12, Kx0_13, Kx0_14⟩, ⟨Nx0_1, Nx0_2, Nx0_3, Nx0_4, Nx0_5, Nx0_6, Nx0_7, Nx0_8, Nx0_9, Nx0_10, Nx0_12, Nx0_13, Nx0_14⟩⟩ := tn_net Kx0_0
  refine tf_LW_go ?_
  exact ⟨(by first | trivial | rfl), q⟩
abbrev lx_X1_spent (nc : Nat) (C : tf_C) (Q : tf_Q) : tf_X := tf_LW nc C (tf_F 0) (tf_M 0) (tf_I 0) (tf_Eh 145) 1 tb_X1_spent Q
set_option maxRecDepth 100000 in
theorem go_X1_spent_0 {nc : Nat} {C : tf_C} {Q : tf_Q} {h : LH} (hn : 270 ≤ nc) {x0 : Nat} (Kx0_0 : tf_K x0 = 0) (q : lx_X1_spent nc C Q 4 [.ref (x0), .int (0), .int (0)] [] h) : lx_X1_spent nc C Q 0 [.ref (x0), tf_z, tf_z] [] h := by
  obtain ⟨Bx0, ⟨Kx0_1, Kx0_2, Kx0_3, Kx0_4, Kx0_5, Kx0_6, Kx0_7, Kx0_8, Kx0_9, Kx0_10, Kx0_11, Kx0_12, Kx0_13, Kx0_14⟩, ⟨Nx0_1, Nx0_2, Nx0_3, Nx0_4, Nx0_5, Nx0_6, Nx0_7, Nx0_8, Nx0_9, Nx0_10, Nx0_12, Nx0_13, Nx0_14⟩⟩ := tn_net Kx0_0
  refine tf_LW_go ?_
  exact q
theorem en_X1_spent {nc d : Nat} {Q : tf_Q} {h : LH} (hn : 270 ≤ nc) {x0 : Nat} (Kx0_0 : tf_K x0 = 0) (q : lx_X1_spent nc (tf_Cd nc d) Q 0 [.ref (x0), tf_z, tf_z] [] h) : tf_Cd nc (d + 1) 145 [.ref (x0)] h Q := by
  obtain ⟨Bx0, ⟨Kx0_1, Kx0_2, Kx0_3, Kx0_4, Kx0_5, Kx0_6, Kx0_7, Kx0_8, Kx0_9, Kx0_10, Kx0_11, Kx0_12, Kx0_13, Kx0_14⟩, ⟨Nx0_1, Nx0_2, Nx0_3, Nx0_4, Nx0_5, Nx0_6, Nx0_7, Nx0_8, Nx0_9, Nx0_10, Nx0_12, Nx0_13, Nx0_14⟩⟩ := tn_net Kx0_0
  exact ⟨⟨Nat.le_of_ble_eq_true rfl, Or.inr ⟨Kx0_0, (show x0 < nc by omega)⟩⟩, q⟩
set_option maxRecDepth 100000 in
theorem go_X1_spent_4 {nc : Nat} {C : tf_C} {Q : tf_Q} {h : LH} (hn : 270 ≤ nc) {x0 : Nat} {x1 : Int32} {x2 : Int32} (Kx0_0 : tf_K x0 = 0) (q : ((h.1 x0 1) ≤ x2 → lx_X1_spent nc C Q 34 [.ref (x0), .int (x1), .int (x2)] [] h) ∧ (¬ (h.1 x0 1) ≤ x2 → (vp_in x2 21) ∧ (vp_in x2 21) ∧ lx_X1_spent nc C Q 4 [.ref (x0), .int (x1 + ((h.1 (x0 + 6) (x2 : Int32).toNatClampNeg) * (h.1 (x0 + 5) (x2 : Int32).toNatClampNeg))), .int (x2 + 1)] [] h)) : lx_X1_spent nc C Q 4 [.ref (x0), .int (x1), .int (x2)] [] h := by
  obtain ⟨Bx0, ⟨Kx0_1, Kx0_2, Kx0_3, Kx0_4, Kx0_5, Kx0_6, Kx0_7, Kx0_8, Kx0_9, Kx0_10, Kx0_11, Kx0_12, Kx0_13, Kx0_14⟩, ⟨Nx0_1, Nx0_2, Nx0_3, Nx0_4, Nx0_5, Nx0_6, Nx0_7, Nx0_8, Nx0_9, Nx0_10, Nx0_12, Nx0_13, Nx0_14⟩⟩ := tn_net Kx0_0
  refine tf_LW_go ?_
  show (tf_K x0 = 0 ∧ x0 < nc) ∧ ((h.1 x0 1) ≤ x2 → lx_X1_spent nc C Q 34 [.ref (x0), .int (x1), .int (x2)] [] h) ∧ (¬ (h.1 x0 1) ≤ x2 → (tf_K x0 = 0 ∧ x0 < nc) ∧ (tf_K (tf_R x0 8) = 8 ∧ (tf_R x0 8) < nc ∧ vp_in x2 (tf_N (tf_R x0 8))) ∧ (tf_K x0 = 0 ∧ x0 < nc) ∧ (tf_K (tf_R x0 7) = 8 ∧ (tf_R x0 7) < nc ∧ vp_in x2 (tf_N (tf_R x0 7))) ∧ lx_X1_spent nc C Q 4 [.ref (x0), .int (x1 + ((h.1 (tf_R x0 8) (x2 : Int32).toNatClampNeg) * (h.1 (tf_R x0 7) (x2 : Int32).toNatClampNeg))), .int (x2 + 1)] [] h)
  try simp only [(show tf_R x0 7 = x0 + 5 by rw [tn_R0 Kx0_0]; try omega), (show tf_R x0 8 = x0 + 6 by rw [tn_R0 Kx0_0]; try omega), Nx0_5, Nx0_6]
  exact ⟨⟨Kx0_0, (show x0 < nc by omega)⟩, ⟨q.1, fun c1 => ⟨⟨Kx0_0, (show x0 < nc by omega)⟩, ⟨⟨Kx0_6, (show x0 + 6 < nc by omega), (q.2 c1).1⟩, ⟨⟨Kx0_0, (show x0 < nc by omega)⟩, ⟨⟨Kx0_5, (show x0 + 5 < nc by omega), (q.2 c1).2.1⟩, (q.2 c1).2.2⟩⟩⟩⟩⟩⟩
set_option maxRecDepth 100000 in
theorem go_X1_spent_34 {nc : Nat} {C : tf_C} {Q : tf_Q} {h : LH} (hn : 270 ≤ nc) {x0 : Nat} {x1 : Int32} {x2 : Int32} (Kx0_0 : tf_K x0 = 0) (q : Q (.int (x1)) h) : lx_X1_spent nc C Q 34 [.ref (x0), .int (x1), .int (x2)] [] h := by
  obtain ⟨Bx0, ⟨Kx0_1, Kx0_2, Kx0_3, Kx0_4, Kx0_5, Kx0_6, Kx0_7, Kx0_8, Kx0_9, Kx0_10, Kx0_11, Kx0_12, Kx0_13, Kx0_14⟩, ⟨Nx0_1, Nx0_2, Nx0_3, Nx0_4, Nx0_5, Nx0_6, Nx0_7, Nx0_8, Nx0_9, Nx0_10, Nx0_12, Nx0_13, Nx0_14⟩⟩ := tn_net Kx0_0
  refine tf_LW_go ?_
  exact ⟨(by first | trivial | rfl), q⟩
abbrev lx_X1_flowingCostAbove (nc : Nat) (C : tf_C) (Q : tf_Q) : tf_X := tf_LW nc C (tf_F 0) (tf_M 0) (tf_I 0) (tf_Eh 146) 1 tb_X1_flowingCostAbove Q
set_option maxRecDepth 100000 in
theorem go_X1_flowingCostAbove_0 {nc : Nat} {C : tf_C} {Q : tf_Q} {h : LH} (hn : 270 ≤ nc) {x0 : Nat} {x1 : Int32} (Kx0_0 : tf_K x0 = 0) (q : lx_X1_flowingCostAbove nc C Q 5 [.ref (x0), .int (x1), .int (100), .int (0)] [] h) : lx_X1_flowingCostAbove nc C Q 0 [.ref (x0), .int (x1), tf_z, tf_z] [] h := by
  obtain ⟨Bx0, ⟨Kx0_1, Kx0_2, Kx0_3, Kx0_4, Kx0_5, Kx0_6, Kx0_7, Kx0_8, Kx0_9, Kx0_10, Kx0_11, Kx0_12, Kx0_13, Kx0_14⟩, ⟨Nx0_1, Nx0_2, Nx0_3, Nx0_4, Nx0_5, Nx0_6, Nx0_7, Nx0_8, Nx0_9, Nx0_10, Nx0_12, Nx0_13, Nx0_14⟩⟩ := tn_net Kx0_0
  refine tf_LW_go ?_
  exact q
theorem en_X1_flowingCostAbove {nc d : Nat} {Q : tf_Q} {h : LH} (hn : 270 ≤ nc) {x0 : Nat} {x1 : Int32} (Kx0_0 : tf_K x0 = 0) (q : lx_X1_flowingCostAbove nc (tf_Cd nc d) Q 0 [.ref (x0), .int (x1), tf_z, tf_z] [] h) : tf_Cd nc (d + 1) 146 [.ref (x0), .int (x1)] h Q := by
  obtain ⟨Bx0, ⟨Kx0_1, Kx0_2, Kx0_3, Kx0_4, Kx0_5, Kx0_6, Kx0_7, Kx0_8, Kx0_9, Kx0_10, Kx0_11, Kx0_12, Kx0_13, Kx0_14⟩, ⟨Nx0_1, Nx0_2, Nx0_3, Nx0_4, Nx0_5, Nx0_6, Nx0_7, Nx0_8, Nx0_9, Nx0_10, Nx0_12, Nx0_13, Nx0_14⟩⟩ := tn_net Kx0_0
  exact ⟨⟨Nat.le_of_ble_eq_true rfl, Or.inr ⟨Kx0_0, (show x0 < nc by omega)⟩⟩, q⟩
set_option maxRecDepth 100000 in
theorem go_X1_flowingCostAbove_5 {nc : Nat} {C : tf_C} {Q : tf_Q} {h : LH} (hn : 270 ≤ nc) {x0 : Nat} {x1 : Int32} {x2 : Int32} {x3 : Int32} (Kx0_0 : tf_K x0 = 0) (q : ((h.1 x0 1) ≤ x3 → lx_X1_flowingCostAbove nc C Q 55 [.ref (x0), .int (x1), .int (x2), .int (x3)] [] h) ∧ (¬ (h.1 x0 1) ≤ x3 → (vp_in x3 21) ∧ ((h.1 (x0 + 6) (x3 : Int32).toNatClampNeg) ≤ (0 : Int32) → lx_X1_flowingCostAbove nc C Q 49 [.ref (x0), .int (x1), .int (x2), .int (x3)] [] h) ∧ (¬ (h.1 (x0 + 6) (x3 : Int32).toNatClampNeg) ≤ (0 : Int32) → (vp_in x3 21) ∧ ((h.1 (x0 + 5) (x3 : Int32).toNatClampNeg) ≤ x1 → lx_X1_flowingCostAbove nc C Q 49 [.ref (x0), .int (x1), .int (x2), .int (x3)] [] h) ∧ (¬ (h.1 (x0 + 5) (x3 : Int32).toNatClampNeg) ≤ x1 → (vp_in x3 21) ∧ (x2 ≤ (h.1 (x0 + 5) (x3 : Int32).toNatClampNeg) → lx_X1_flowingCostAbove nc C Q 49 [.ref (x0), .int (x1), .int (x2), .int (x3)] [] h) ∧ (¬ x2 ≤ (h.1 (x0 + 5) (x3 : Int32).toNatClampNeg) → (vp_in x3 21) ∧ lx_X1_flowingCostAbove nc C Q 49 [.ref (x0), .int (x1), .int (h.1 (x0 + 5) (x3 : Int32).toNatClampNeg), .int (x3)] [] h))))) : lx_X1_flowingCostAbove nc C Q 5 [.ref (x0), .int (x1), .int (x2), .int (x3)] [] h := by
  obtain ⟨Bx0, ⟨Kx0_1, Kx0_2, Kx0_3, Kx0_4, Kx0_5, Kx0_6, Kx0_7, Kx0_8, Kx0_9, Kx0_10, Kx0_11, Kx0_12, Kx0_13, Kx0_14⟩, ⟨Nx0_1, Nx0_2, Nx0_3, Nx0_4, Nx0_5, Nx0_6, Nx0_7, Nx0_8, Nx0_9, Nx0_10, Nx0_12, Nx0_13, Nx0_14⟩⟩ := tn_net Kx0_0
  refine tf_LW_go ?_
  show (tf_K x0 = 0 ∧ x0 < nc) ∧ ((h.1 x0 1) ≤ x3 → lx_X1_flowingCostAbove nc C Q 55 [.ref (x0), .int (x1), .int (x2), .int (x3)] [] h) ∧ (¬ (h.1 x0 1) ≤ x3 → (tf_K x0 = 0 ∧ x0 < nc) ∧ (tf_K (tf_R x0 8) = 8 ∧ (tf_R x0 8) < nc ∧ vp_in x3 (tf_N (tf_R x0 8))) ∧ ((h.1 (tf_R x0 8) (x3 : Int32).toNatClampNeg) ≤ (0 : Int32) → lx_X1_flowingCostAbove nc C Q 49 [.ref (x0), .int (x1), .int (x2), .int (x3)] [] h) ∧ (¬ (h.1 (tf_R x0 8) (x3 : Int32).toNatClampNeg) ≤ (0 : Int32) → (tf_K x0 = 0 ∧ x0 < nc) ∧ (tf_K (tf_R x0 7) = 8 ∧ (tf_R x0 7) < nc ∧ vp_in x3 (tf_N (tf_R x0 7))) ∧ ((h.1 (tf_R x0 7) (x3 : Int32).toNatClampNeg) ≤ x1 → lx_X1_flowingCostAbove nc C Q 49 [.ref (x0), .int (x1), .int (x2), .int (x3)] [] h) ∧ (¬ (h.1 (tf_R x0 7) (x3 : Int32).toNatClampNeg) ≤ x1 → (tf_K x0 = 0 ∧ x0 < nc) ∧ (tf_K (tf_R x0 7) = 8 ∧ (tf_R x0 7) < nc ∧ vp_in x3 (tf_N (tf_R x0 7))) ∧ (x2 ≤ (h.1 (tf_R x0 7) (x3 : Int32).toNatClampNeg) → lx_X1_flowingCostAbove nc C Q 49 [.ref (x0), .int (x1), .int (x2), .int (x3)] [] h) ∧ (¬ x2 ≤ (h.1 (tf_R x0 7) (x3 : Int32).toNatClampNeg) → (tf_K x0 = 0 ∧ x0 < nc) ∧ (tf_K (tf_R x0 7) = 8 ∧ (tf_R x0 7) < nc ∧ vp_in x3 (tf_N (tf_R x0 7))) ∧ lx_X1_flowingCostAbove nc C Q 49 [.ref (x0), .int (x1), .int (h.1 (tf_R x0 7) (x3 : Int32).toNatClampNeg), .int (x3)] [] h))))
  try simp only [(show tf_R x0 7 = x0 + 5 by rw [tn_R0 Kx0_0]; try omega), (show tf_R x0 8 = x0 + 6 by rw [tn_R0 Kx0_0]; try omega), Nx0_5, Nx0_6]
  exact ⟨⟨Kx0_0, (show x0 < nc by omega)⟩, ⟨q.1, fun c4 => ⟨⟨Kx0_0, (show x0 < nc by omega)⟩, ⟨⟨Kx0_6, (show x0 + 6 < nc by omega), (q.2 c4).1⟩, ⟨(q.2 c4).2.1, fun c3 => ⟨⟨Kx0_0, (show x0 < nc by omega)⟩, ⟨⟨Kx0_5, (show x0 + 5 < nc by omega), ((q.2 c4).2.2 c3).1⟩, ⟨((q.2 c4).2.2 c3).2.1, fun c2 => ⟨⟨Kx0_0, (show x0 < nc by omega)⟩, ⟨⟨Kx0_5, (show x0 + 5 < nc by omega), (((q.2 c4).2.2 c3).2.2 c2).1⟩, ⟨(((q.2 c4).2.2 c3).2.2 c2).2.1, fun c1 => ⟨⟨Kx0_0, (show x0 < nc by omega)⟩, ⟨⟨Kx0_5, (show x0 + 5 < nc by omega), ((((q.2 c4).2.2 c3).2.2 c2).2.2 c1).1⟩, ((((q.2 c4).2.2 c3).2.2 c2).2.2 c1).2⟩⟩⟩⟩⟩⟩⟩⟩⟩⟩⟩⟩⟩
set_option maxRecDepth 100000 in
theorem go_X1_flowingCostAbove_49 {nc : Nat} {C : tf_C} {Q : tf_Q} {h : LH} (hn : 270 ≤ nc) {x0 : Nat} {x1 : Int32} {x2 : Int32} {x3 : Int32} (Kx0_0 : tf_K x0 = 0) (q : lx_X1_flowingCostAbove nc C Q 5 [.ref (x0), .int (x1), .int (x2), .int (x3 + 1)] [] h) : lx_X1_flowingCostAbove nc C Q 49 [.ref (x0), .int (x1), .int (x2), .int (x3)] [] h := by
  obtain ⟨Bx0, ⟨Kx0_1, Kx0_2, Kx0_3, Kx0_4, Kx0_5, Kx0_6, Kx0_7, Kx0_8, Kx0_9, Kx0_10, Kx0_11, Kx0_12, Kx0_13, Kx0_14⟩, ⟨Nx0_1, Nx0_2, Nx0_3, Nx0_4, Nx0_5, Nx0_6, Nx0_7, Nx0_8, Nx0_9, Nx0_10, Nx0_12, Nx0_13, Nx0_14⟩⟩ := tn_net Kx0_0
  refine tf_LW_go ?_
  exact q
set_option maxRecDepth 100000 in
theorem go_X1_flowingCostAbove_55 {nc : Nat} {C : tf_C} {Q : tf_Q} {h : LH} (hn : 270 ≤ nc) {x0 : Nat} {x1 : Int32} {x2 : Int32} {x3 : Int32} (Kx0_0 : tf_K x0 = 0) (q : Q (.int (x2)) h) : lx_X1_flowingCostAbove nc C Q 55 [.ref (x0), .int (x1), .int (x2), .int (x3)] [] h := by
  obtain ⟨Bx0, ⟨Kx0_1, Kx0_2, Kx0_3, Kx0_4, Kx0_5, Kx0_6, Kx0_7, Kx0_8, Kx0_9, Kx0_10, Kx0_11, Kx0_12, Kx0_13, Kx0_14⟩, ⟨Nx0_1, Nx0_2, Nx0_3, Nx0_4, Nx0_5, Nx0_6, Nx0_7, Nx0_8, Nx0_9, Nx0_10, Nx0_12, Nx0_13, Nx0_14⟩⟩ := tn_net Kx0_0
  refine tf_LW_go ?_
  exact ⟨(by first | trivial | rfl), q⟩
abbrev lx_X1_flowAtCost (nc : Nat) (C : tf_C) (Q : tf_Q) : tf_X := tf_LW nc C (tf_F 0) (tf_M 0) (tf_I 0) (tf_Eh 147) 1 tb_X1_flowAtCost Q
set_option maxRecDepth 100000 in
theorem go_X1_flowAtCost_0 {nc : Nat} {C : tf_C} {Q : tf_Q} {h : LH} (hn : 270 ≤ nc) {x0 : Nat} {x1 : Int32} (Kx0_0 : tf_K x0 = 0) (q : lx_X1_flowAtCost nc C Q 4 [.ref (x0), .int (x1), .int (0), .int (0)] [] h) : lx_X1_flowAtCost nc C Q 0 [.ref (x0), .int (x1), tf_z, tf_z] [] h := by
  obtain ⟨Bx0, ⟨Kx0_1, Kx0_2, Kx0_3, Kx0_4, Kx0_5, Kx0_6, Kx0_7, Kx0_8, Kx0_9, Kx0_10, Kx0_11, Kx0_12, Kx0_13, Kx0_14⟩, ⟨Nx0_1, Nx0_2, Nx0_3, Nx0_4, Nx0_5, Nx0_6, Nx0_7, Nx0_8, Nx0_9, Nx0_10, Nx0_12, Nx0_13, Nx0_14⟩⟩ := tn_net Kx0_0
  refine tf_LW_go ?_
  exact q
theorem en_X1_flowAtCost {nc d : Nat} {Q : tf_Q} {h : LH} (hn : 270 ≤ nc) {x0 : Nat} {x1 : Int32} (Kx0_0 : tf_K x0 = 0) (q : lx_X1_flowAtCost nc (tf_Cd nc d) Q 0 [.ref (x0), .int (x1), tf_z, tf_z] [] h) : tf_Cd nc (d + 1) 147 [.ref (x0), .int (x1)] h Q := by
  obtain ⟨Bx0, ⟨Kx0_1, Kx0_2, Kx0_3, Kx0_4, Kx0_5, Kx0_6, Kx0_7, Kx0_8, Kx0_9, Kx0_10, Kx0_11, Kx0_12, Kx0_13, Kx0_14⟩, ⟨Nx0_1, Nx0_2, Nx0_3, Nx0_4, Nx0_5, Nx0_6, Nx0_7, Nx0_8, Nx0_9, Nx0_10, Nx0_12, Nx0_13, Nx0_14⟩⟩ := tn_net Kx0_0
  exact ⟨⟨Nat.le_of_ble_eq_true rfl, Or.inr ⟨Kx0_0, (show x0 < nc by omega)⟩⟩, q⟩
set_option maxRecDepth 100000 in
theorem go_X1_flowAtCost_4 {nc : Nat} {C : tf_C} {Q : tf_Q} {h : LH} (hn : 270 ≤ nc) {x0 : Nat} {x1 : Int32} {x2 : Int32} {x3 : Int32} (Kx0_0 : tf_K x0 = 0) (q : ((h.1 x0 1) ≤ x3 → lx_X1_flowAtCost nc C Q 37 [.ref (x0), .int (x1), .int (x2), .int (x3)] [] h) ∧ (¬ (h.1 x0 1) ≤ x3 → (vp_in x3 21) ∧ ((h.1 (x0 + 5) (x3 : Int32).toNatClampNeg) = x1 → (vp_in x3 21) ∧ lx_X1_flowAtCost nc C Q 31 [.ref (x0), .int (x1), .int (x2 + (h.1 (x0 + 6) (x3 : Int32).toNatClampNeg)), .int (x3)] [] h) ∧ (¬ (h.1 (x0 + 5) (x3 : Int32).toNatClampNeg) = x1 → lx_X1_flowAtCost nc C Q 31 [.ref (x0), .int (x1), .int (x2), .int (x3)] [] h))) : lx_X1_flowAtCost nc C Q 4 [.ref (x0), .int (x1), .int (x2), .int (x3)] [] h := by
  obtain ⟨Bx0, ⟨Kx0_1, Kx0_2, Kx0_3, Kx0_4, Kx0_5, Kx0_6, Kx0_7, Kx0_8, Kx0_9, Kx0_10, Kx0_11, Kx0_12, Kx0_13, Kx0_14⟩, ⟨Nx0_1, Nx0_2, Nx0_3, Nx0_4, Nx0_5, Nx0_6, Nx0_7, Nx0_8, Nx0_9, Nx0_10, Nx0_12, Nx0_13, Nx0_14⟩⟩ := tn_net Kx0_0
  refine tf_LW_go ?_
  show (tf_K x0 = 0 ∧ x0 < nc) ∧ ((h.1 x0 1) ≤ x3 → lx_X1_flowAtCost nc C Q 37 [.ref (x0), .int (x1), .int (x2), .int (x3)] [] h) ∧ (¬ (h.1 x0 1) ≤ x3 → (tf_K x0 = 0 ∧ x0 < nc) ∧ (tf_K (tf_R x0 7) = 8 ∧ (tf_R x0 7) < nc ∧ vp_in x3 (tf_N (tf_R x0 7))) ∧ ((h.1 (tf_R x0 7) (x3 : Int32).toNatClampNeg) = x1 → (tf_K x0 = 0 ∧ x0 < nc) ∧ (tf_K (tf_R x0 8) = 8 ∧ (tf_R x0 8) < nc ∧ vp_in x3 (tf_N (tf_R x0 8))) ∧ lx_X1_flowAtCost nc C Q 31 [.ref (x0), .int (x1), .int (x2 + (h.1 (tf_R x0 8) (x3 : Int32).toNatClampNeg)), .int (x3)] [] h) ∧ (¬ (h.1 (tf_R x0 7) (x3 : Int32).toNatClampNeg) = x1 → lx_X1_flowAtCost nc C Q 31 [.ref (x0), .int (x1), .int (x2), .int (x3)] [] h))
  try simp only [(show tf_R x0 7 = x0 + 5 by rw [tn_R0 Kx0_0]; try omega), (show tf_R x0 8 = x0 + 6 by rw [tn_R0 Kx0_0]; try omega), Nx0_5, Nx0_6]
  exact ⟨⟨Kx0_0, (show x0 < nc by omega)⟩, ⟨q.1, fun c2 => ⟨⟨Kx0_0, (show x0 < nc by omega)⟩, ⟨⟨Kx0_5, (show x0 + 5 < nc by omega), (q.2 c2).1⟩, ⟨fun c1 => ⟨⟨Kx0_0, (show x0 < nc by omega)⟩, ⟨⟨Kx0_6, (show x0 + 6 < nc by omega), ((q.2 c2).2.1 c1).1⟩, ((q.2 c2).2.1 c1).2⟩⟩, (q.2 c2).2.2⟩⟩⟩⟩⟩
set_option maxRecDepth 100000 in
theorem go_X1_flowAtCost_31 {nc : Nat} {C : tf_C} {Q : tf_Q} {h : LH} (hn : 270 ≤ nc) {x0 : Nat} {x1 : Int32} {x2 : Int32} {x3 : Int32} (Kx0_0 : tf_K x0 = 0) (q : lx_X1_flowAtCost nc C Q 4 [.ref (x0), .int (x1), .int (x2), .int (x3 + 1)] [] h) : lx_X1_flowAtCost nc C Q 31 [.ref (x0), .int (x1), .int (x2), .int (x3)] [] h := by
  obtain ⟨Bx0, ⟨Kx0_1, Kx0_2, Kx0_3, Kx0_4, Kx0_5, Kx0_6, Kx0_7, Kx0_8, Kx0_9, Kx0_10, Kx0_11, Kx0_12, Kx0_13, Kx0_14⟩, ⟨Nx0_1, Nx0_2, Nx0_3, Nx0_4, Nx0_5, Nx0_6, Nx0_7, Nx0_8, Nx0_9, Nx0_10, Nx0_12, Nx0_13, Nx0_14⟩⟩ := tn_net Kx0_0
  refine tf_LW_go ?_
  exact q
set_option maxRecDepth 100000 in
theorem go_X1_flowAtCost_37 {nc : Nat} {C : tf_C} {Q : tf_Q} {h : LH} (hn : 270 ≤ nc) {x0 : Nat} {x1 : Int32} {x2 : Int32} {x3 : Int32} (Kx0_0 : tf_K x0 = 0) (q : Q (.int (x2)) h) : lx_X1_flowAtCost nc C Q 37 [.ref (x0), .int (x1), .int (x2), .int (x3)] [] h := by
  obtain ⟨Bx0, ⟨Kx0_1, Kx0_2, Kx0_3, Kx0_4, Kx0_5, Kx0_6, Kx0_7, Kx0_8, Kx0_9, Kx0_10, Kx0_11, Kx0_12, Kx0_13, Kx0_14⟩, ⟨Nx0_1, Nx0_2, Nx0_3, Nx0_4, Nx0_5, Nx0_6, Nx0_7, Nx0_8, Nx0_9, Nx0_10, Nx0_12, Nx0_13, Nx0_14⟩⟩ := tn_net Kx0_0
  refine tf_LW_go ?_
  exact ⟨(by first | trivial | rfl), q⟩
abbrev lx_X1_countApart (nc : Nat) (C : tf_C) (Q : tf_Q) : tf_X := tf_LW nc C (tf_F 0) (tf_M 0) (tf_I 0) (tf_Eh 148) 1 tb_X1_countApart Q
set_option maxRecDepth 100000 in
theorem go_X1_countApart_0 {nc : Nat} {C : tf_C} {Q : tf_Q} {h : LH} (hn : 270 ≤ nc) {x0 : Nat} {x1 : Nat} (Kx0_0 : tf_K x0 = 0) (Kx1_0 : tf_K x1 = 0) (q : lx_X1_countApart nc C Q 4 [.ref (x0), .ref (x1), .int (0), .int (0), tf_z, tf_z] [] h) : lx_X1_countApart nc C Q 0 [.ref (x0), .ref (x1), tf_z, tf_z, tf_z, tf_z] [] h := by
  obtain ⟨Bx0, ⟨Kx0_1, Kx0_2, Kx0_3, Kx0_4, Kx0_5, Kx0_6, Kx0_7, Kx0_8, Kx0_9, Kx0_10, Kx0_11, Kx0_12, Kx0_13, Kx0_14⟩, ⟨Nx0_1, Nx0_2, Nx0_3, Nx0_4, Nx0_5, Nx0_6, Nx0_7, Nx0_8, Nx0_9, Nx0_10, Nx0_12, Nx0_13, Nx0_14⟩⟩ := tn_net Kx0_0
  obtain ⟨Bx1, ⟨Kx1_1, Kx1_2, Kx1_3, Kx1_4, Kx1_5, Kx1_6, Kx1_7, Kx1_8, Kx1_9, Kx1_10, Kx1_11, Kx1_12, Kx1_13, Kx1_14⟩, ⟨Nx1_1, Nx1_2, Nx1_3, Nx1_4, Nx1_5, Nx1_6, Nx1_7, Nx1_8, Nx1_9, Nx1_10, Nx1_12, Nx1_13, Nx1_14⟩⟩ := tn_net Kx1_0
  refine tf_LW_go ?_
  exact q
theorem en_X1_countApart {nc d : Nat} {Q : tf_Q} {h : LH} (hn : 270 ≤ nc) {x0 : Nat} {x1 : Nat} (Kx0_0 : tf_K x0 = 0) (Kx1_0 : tf_K x1 = 0) (q : lx_X1_countApart nc (tf_Cd nc d) Q 0 [.ref (x0), .ref (x1), tf_z, tf_z, tf_z, tf_z] [] h) : tf_Cd nc (d + 1) 148 [.ref (x0), .ref (x1)] h Q := by
  obtain ⟨Bx0, ⟨Kx0_1, Kx0_2, Kx0_3, Kx0_4, Kx0_5, Kx0_6, Kx0_7, Kx0_8, Kx0_9, Kx0_10, Kx0_11, Kx0_12, Kx0_13, Kx0_14⟩, ⟨Nx0_1, Nx0_2, Nx0_3, Nx0_4, Nx0_5, Nx0_6, Nx0_7, Nx0_8, Nx0_9, Nx0_10, Nx0_12, Nx0_13, Nx0_14⟩⟩ := tn_net Kx0_0
  obtain ⟨Bx1, ⟨Kx1_1, Kx1_2, Kx1_3, Kx1_4, Kx1_5, Kx1_6, Kx1_7, Kx1_8, Kx1_9, Kx1_10, Kx1_11, Kx1_12, Kx1_13, Kx1_14⟩, ⟨Nx1_1, Nx1_2, Nx1_3, Nx1_4, Nx1_5, Nx1_6, Nx1_7, Nx1_8, Nx1_9, Nx1_10, Nx1_12, Nx1_13, Nx1_14⟩⟩ := tn_net Kx1_0
  exact ⟨⟨Nat.le_of_ble_eq_true rfl, Or.inr ⟨Kx0_0, (show x0 < nc by omega)⟩⟩, q⟩
set_option maxRecDepth 100000 in
theorem go_X1_countApart_4 {nc : Nat} {C : tf_C} {Q : tf_Q} {h : LH} (hn : 270 ≤ nc) {x0 : Nat} {x1 : Nat} {x2 : Int32} {x3 : Int32} {x4 : Value} {x5 : Value} (Kx0_0 : tf_K x0 = 0) (Kx1_0 : tf_K x1 = 0) (q : ((14 : Int32) ≤ x3 → lx_X1_countApart nc C Q 66 [.ref (x0), .ref (x1), .int (x2), .int (x3), x4, x5] [] h) ∧ (¬ (14 : Int32) ≤ x3 → ((h.1 x0 1) ≤ x3 → lx_X1_countApart nc C Q 27 [.ref (x0), .ref (x1), .int (x2), .int (x3), x4, x5] [] h) ∧ (¬ (h.1 x0 1) ≤ x3 → (vp_in x3 21) ∧ lx_X1_countApart nc C Q 28 [.ref (x0), .ref (x1), .int (x2), .int (x3), x4, x5] [.int (h.1 (x0 + 6) (x3 : Int32).toNatClampNeg)] h))) : lx_X1_countApart nc C Q 4 [.ref (x0), .ref (x1), .int (x2), .int (x3), x4, x5] [] h := by
  obtain ⟨Bx0, ⟨Kx0_1, Kx0_2, Kx0_3, Kx0_4, Kx0_5, Kx0_6, Kx0_7, Kx0_8, Kx0_9, Kx0_10, Kx0_11, Kx0_12, Kx0_13, Kx0_14⟩, ⟨Nx0_1, Nx0_2, Nx0_3, Nx0_4, Nx0_5, Nx0_6, Nx0_7, Nx0_8, Nx0_9, Nx0_10, Nx0_12, Nx0_13, Nx0_14⟩⟩ := tn_net Kx0_0
  obtain ⟨Bx1, ⟨Kx1_1, Kx1_2, Kx1_3, Kx1_4, Kx1_5, Kx1_6, Kx1_7, Kx1_8, Kx1_9, Kx1_10, Kx1_11, Kx1_12, Kx1_13, Kx1_14⟩, ⟨Nx1_1, Nx1_2, Nx1_3, Nx1_4, Nx1_5, Nx1_6, Nx1_7, Nx1_8, Nx1_9, Nx1_10, Nx1_12, Nx1_13, Nx1_14⟩⟩ := tn_net Kx1_0
  refine tf_LW_go ?_
  show ((14 : Int32) ≤ x3 → lx_X1_countApart nc C Q 66 [.ref (x0), .ref (x1), .int (x2), .int (x3), x4, x5] [] h) ∧ (¬ (14 : Int32) ≤ x3 → (tf_K x0 = 0 ∧ x0 < nc) ∧ ((h.1 x0 1) ≤ x3 → lx_X1_countApart nc C Q 27 [.ref (x0), .ref (x1), .int (x2), .int (x3), x4, x5] [] h) ∧ (¬ (h.1 x0 1) ≤ x3 → (tf_K x0 = 0 ∧ x0 < nc) ∧ (tf_K (tf_R x0 8) = 8 ∧ (tf_R x0 8) < nc ∧ vp_in x3 (tf_N (tf_R x0 8))) ∧ lx_X1_countApart nc C Q 28 [.ref (x0), .ref (x1), .int (x2), .int (x3), x4, x5] [.int (h.1 (tf_R x0 8) (x3 : Int32).toNatClampNeg)] h))
  try simp only [(show tf_R x0 8 = x0 + 6 by rw [tn_R0 Kx0_0]; try omega), Nx0_6]
  exact ⟨q.1, fun c2 => ⟨⟨Kx0_0, (show x0 < nc by omega)⟩, ⟨(q.2 c2).1, fun c1 => ⟨⟨Kx0_0, (show x0 < nc by omega)⟩, ⟨⟨Kx0_6, (show x0 + 6 < nc by omega), ((q.2 c2).2 c1).1⟩, ((q.2 c2).2 c1).2⟩⟩⟩⟩⟩
set_option maxRecDepth 100000 in
theorem go_X1_countApart_27 {nc : Nat} {C : tf_C} {Q : tf_Q} {h : LH} (hn : 270 ≤ nc) {x0 : Nat} {x1 : Nat} {x2 : Int32} {x3 : Int32} {x4 : Value} {x5 : Value} (Kx0_0 : tf_K x0 = 0) (Kx1_0 : tf_K x1 = 0) (q : lx_X1_countApart nc C Q 28 [.ref (x0), .ref (x1), .int (x2), .int (x3), x4, x5] [.int (0)] h) : lx_X1_countApart nc C Q 27 [.ref (x0), .ref (x1), .int (x2), .int (x3), x4, x5] [] h := by
  obtain ⟨Bx0, ⟨Kx0_1, Kx0_2, Kx0_3, Kx0_4, Kx0_5, Kx0_6, Kx0_7, Kx0_8, Kx0_9, Kx0_10, Kx0_11, Kx0_12, Kx0_13, Kx0_14⟩, ⟨Nx0_1, Nx0_2, Nx0_3, Nx0_4, Nx0_5, Nx0_6, Nx0_7, Nx0_8, Nx0_9, Nx0_10, Nx0_12, Nx0_13, Nx0_14⟩⟩ := tn_net Kx0_0
  obtain ⟨Bx1, ⟨Kx1_1, Kx1_2, Kx1_3, Kx1_4, Kx1_5, Kx1_6, Kx1_7, Kx1_8, Kx1_9, Kx1_10, Kx1_11, Kx1_12, Kx1_13, Kx1_14⟩, ⟨Nx1_1, Nx1_2, Nx1_3, Nx1_4, Nx1_5, Nx1_6, Nx1_7, Nx1_8, Nx1_9, Nx1_10, Nx1_12, Nx1_13, Nx1_14⟩⟩ := tn_net Kx1_0
  refine tf_LW_go ?_
  exact q
set_option maxRecDepth 100000 in
theorem go_X1_countApart_28 {nc : Nat} {C : tf_C} {Q : tf_Q} {h : LH} (hn : 270 ≤ nc) {x0 : Nat} {x1 : Nat} {x2 : Int32} {x3 : Int32} {x4 : Value} {x5 : Value} {y0 : Int32} (Kx0_0 : tf_K x0 = 0) (Kx1_0 : tf_K x1 = 0) (q : ((h.1 x1 1) ≤ x3 → lx_X1_countApart nc C Q 47 [.ref (x0), .ref (x1), .int (x2), .int (x3), .int (y0), x5] [] h) ∧ (¬ (h.1 x1 1) ≤ x3 → (vp_in x3 21) ∧ lx_X1_countApart nc C Q 48 [.ref (x0), .ref (x1), .int (x2), .int (x3), .int (y0), x5] [.int (h.1 (x1 + 6) (x3 : Int32).toNatClampNeg)] h)) : lx_X1_countApart nc C Q 28 [.ref (x0), .ref (x1), .int (x2), .int (x3), x4, x5] [.int (y0)] h := by
  obtain ⟨Bx0, ⟨Kx0_1, Kx0_2, Kx0_3, Kx0_4, Kx0_5, Kx0_6, Kx0_7, Kx0_8, Kx0_9, Kx0_10, Kx0_11, Kx0_12, Kx0_13, Kx0_14⟩, ⟨Nx0_1, Nx0_2, Nx0_3, Nx0_4, Nx0_5, Nx0_6, Nx0_7, Nx0_8, Nx0_9, Nx0_10, Nx0_12, Nx0_13, Nx0_14⟩⟩ := tn_net Kx0_0
  obtain ⟨Bx1, ⟨Kx1_1, Kx1_2, Kx1_3, Kx1_4, Kx1_5, Kx1_6, Kx1_7, Kx1_8, Kx1_9, Kx1_10, Kx1_11, Kx1_12, Kx1_13, Kx1_14⟩, ⟨Nx1_1, Nx1_2, Nx1_3, Nx1_4, Nx1_5, Nx1_6, Nx1_7, Nx1_8, Nx1_9, Nx1_10, Nx1_12, Nx1_13, Nx1_14⟩⟩ := tn_net Kx1_0
  refine tf_LW_go ?_
  show (tf_K x1 = 0 ∧ x1 < nc) ∧ ((h.1 x1 1) ≤ x3 → lx_X1_countApart nc C Q 47 [.ref (x0), .ref (x1), .int (x2), .int (x3), .int (y0), x5] [] h) ∧ (¬ (h.1 x1 1) ≤ x3 → (tf_K x1 = 0 ∧ x1 < nc) ∧ (tf_K (tf_R x1 8) = 8 ∧ (tf_R x1 8) < nc ∧ vp_in x3 (tf_N (tf_R x1 8))) ∧ lx_X1_countApart nc C Q 48 [.ref (x0), .ref (x1), .int (x2), .int (x3), .int (y0), x5] [.int (h.1 (tf_R x1 8) (x3 : Int32).toNatClampNeg)] h)
  try simp only [(show tf_R x1 8 = x1 + 6 by rw [tn_R0 Kx1_0]; try omega), Nx1_6]
  exact ⟨⟨Kx1_0, (show x1 < nc by omega)⟩, ⟨q.1, fun c1 => ⟨⟨Kx1_0, (show x1 < nc by omega)⟩, ⟨⟨Kx1_6, (show x1 + 6 < nc by omega), (q.2 c1).1⟩, (q.2 c1).2⟩⟩⟩⟩
set_option maxRecDepth 100000 in
theorem go_X1_countApart_47 {nc : Nat} {C : tf_C} {Q : tf_Q} {h : LH} (hn : 270 ≤ nc) {x0 : Nat} {x1 : Nat} {x2 : Int32} {x3 : Int32} {x4 : Int32} {x5 : Value} (Kx0_0 : tf_K x0 = 0) (Kx1_0 : tf_K x1 = 0) (q : lx_X1_countApart nc C Q 48 [.ref (x0), .ref (x1), .int (x2), .int (x3), .int (x4), x5] [.int (0)] h) : lx_X1_countApart nc C Q 47 [.ref (x0), .ref (x1), .int (x2), .int (x3), .int (x4), x5] [] h := by
  obtain ⟨Bx0, ⟨Kx0_1, Kx0_2, Kx0_3, Kx0_4, Kx0_5, Kx0_6, Kx0_7, Kx0_8, Kx0_9, Kx0_10, Kx0_11, Kx0_12, Kx0_13, Kx0_14⟩, ⟨Nx0_1, Nx0_2, Nx0_3, Nx0_4, Nx0_5, Nx0_6, Nx0_7, Nx0_8, Nx0_9, Nx0_10, Nx0_12, Nx0_13, Nx0_14⟩⟩ := tn_net Kx0_0
  obtain ⟨Bx1, ⟨Kx1_1, Kx1_2, Kx1_3, Kx1_4, Kx1_5, Kx1_6, Kx1_7, Kx1_8, Kx1_9, Kx1_10, Kx1_11, Kx1_12, Kx1_13, Kx1_14⟩, ⟨Nx1_1, Nx1_2, Nx1_3, Nx1_4, Nx1_5, Nx1_6, Nx1_7, Nx1_8, Nx1_9, Nx1_10, Nx1_12, Nx1_13, Nx1_14⟩⟩ := tn_net Kx1_0
  refine tf_LW_go ?_
  exact q
set_option maxRecDepth 100000 in
theorem go_X1_countApart_48 {nc : Nat} {C : tf_C} {Q : tf_Q} {h : LH} (hn : 270 ≤ nc) {x0 : Nat} {x1 : Nat} {x2 : Int32} {x3 : Int32} {x4 : Int32} {x5 : Value} {y0 : Int32} (Kx0_0 : tf_K x0 = 0) (Kx1_0 : tf_K x1 = 0) (q : (x4 = y0 → lx_X1_countApart nc C Q 60 [.ref (x0), .ref (x1), .int (x2), .int (x3), .int (x4), .int (y0)] [] h) ∧ (¬ x4 = y0 → lx_X1_countApart nc C Q 60 [.ref (x0), .ref (x1), .int (x2 + 1), .int (x3), .int (x4), .int (y0)] [] h)) : lx_X1_countApart nc C Q 48 [.ref (x0), .ref (x1), .int (x2), .int (x3), .int (x4), x5] [.int (y0)] h := by
  obtain ⟨Bx0, ⟨Kx0_1, Kx0_2, Kx0_3, Kx0_4, Kx0_5, Kx0_6, Kx0_7, Kx0_8, Kx0_9, Kx0_10, Kx0_11, Kx0_12, Kx0_13, Kx0_14⟩, ⟨Nx0_1, Nx0_2, Nx0_3, Nx0_4, Nx0_5, Nx0_6, Nx0_7, Nx0_8, Nx0_9, Nx0_10, Nx0_12, Nx0_13, Nx0_14⟩⟩ := tn_net Kx0_0
  obtain ⟨Bx1, ⟨Kx1_1, Kx1_2, Kx1_3, Kx1_4, Kx1_5, Kx1_6, Kx1_7, Kx1_8, Kx1_9, Kx1_10, Kx1_11, Kx1_12, Kx1_13, Kx1_14⟩, ⟨Nx1_1, Nx1_2, Nx1_3, Nx1_4, Nx1_5, Nx1_6, Nx1_7, Nx1_8, Nx1_9, Nx1_10, Nx1_12, Nx1_13, Nx1_14⟩⟩ := tn_net Kx1_0
  refine tf_LW_go ?_
  exact ⟨q.1, fun c1 => (q.2 c1)⟩
set_option maxRecDepth 100000 in
theorem go_X1_countApart_60 {nc : Nat} {C : tf_C} {Q : tf_Q} {h : LH} (hn : 270 ≤ nc) {x0 : Nat} {x1 : Nat} {x2 : Int32} {x3 : Int32} {x4 : Int32} {x5 : Int32} (Kx0_0 : tf_K x0 = 0) (Kx1_0 : tf_K x1 = 0) (q : lx_X1_countApart nc C Q 4 [.ref (x0), .ref (x1), .int (x2), .int (x3 + 1), .int (x4), .int (x5)] [] h) : lx_X1_countApart nc C Q 60 [.ref (x0), .ref (x1), .int (x2), .int (x3), .int (x4), .int (x5)] [] h := by
  obtain ⟨Bx0, ⟨Kx0_1, Kx0_2, Kx0_3, Kx0_4, Kx0_5, Kx0_6, Kx0_7, Kx0_8, Kx0_9, Kx0_10, Kx0_11, Kx0_12, Kx0_13, Kx0_14⟩, ⟨Nx0_1, Nx0_2, Nx0_3, Nx0_4, Nx0_5, Nx0_6, Nx0_7, Nx0_8, Nx0_9, Nx0_10, Nx0_12, Nx0_13, Nx0_14⟩⟩ := tn_net Kx0_0
  obtain ⟨Bx1, ⟨Kx1_1, Kx1_2, Kx1_3, Kx1_4, Kx1_5, Kx1_6, Kx1_7, Kx1_8, Kx1_9, Kx1_10, Kx1_11, Kx1_12, Kx1_13, Kx1_14⟩, ⟨Nx1_1, Nx1_2, Nx1_3, Nx1_4, Nx1_5, Nx1_6, Nx1_7, Nx1_8, Nx1_9, Nx1_10, Nx1_12, Nx1_13, Nx1_14⟩⟩ := tn_net Kx1_0
  refine tf_LW_go ?_
  exact q
set_option maxRecDepth 100000 in
theorem go_X1_countApart_66 {nc : Nat} {C : tf_C} {Q : tf_Q} {h : LH} (hn : 270 ≤ nc) {x0 : Nat} {x1 : Nat} {x2 : Int32} {x3 : Int32} {x4 : Value} {x5 : Value} (Kx0_0 : tf_K x0 = 0) (Kx1_0 : tf_K x1 = 0) (q : Q (.int (x2)) h) : lx_X1_countApart nc C Q 66 [.ref (x0), .ref (x1), .int (x2), .int (x3), x4, x5] [] h := by
  obtain ⟨Bx0, ⟨Kx0_1, Kx0_2, Kx0_3, Kx0_4, Kx0_5, Kx0_6, Kx0_7, Kx0_8, Kx0_9, Kx0_10, Kx0_11, Kx0_12, Kx0_13, Kx0_14⟩, ⟨Nx0_1, Nx0_2, Nx0_3, Nx0_4, Nx0_5, Nx0_6, Nx0_7, Nx0_8, Nx0_9, Nx0_10, Nx0_12, Nx0_13, Nx0_14⟩⟩ := tn_net Kx0_0
  obtain ⟨Bx1, ⟨Kx1_1, Kx1_2, Kx1_3, Kx1_4, Kx1_5, Kx1_6, Kx1_7, Kx1_8, Kx1_9, Kx1_10, Kx1_11, Kx1_12, Kx1_13, Kx1_14⟩, ⟨Nx1_1, Nx1_2, Nx1_3, Nx1_4, Nx1_5, Nx1_6, Nx1_7, Nx1_8, Nx1_9, Nx1_10, Nx1_12, Nx1_13, Nx1_14⟩⟩ := tn_net Kx1_0
  refine tf_LW_go ?_
  exact ⟨(by first | trivial | rfl), q⟩
abbrev lx_X1_spread (nc : Nat) (C : tf_C) (Q : tf_Q) : tf_X := tf_LW nc C (tf_F 0) (tf_M 0) (tf_I 0) (tf_Eh 149) 0 tb_X1_spread Q
set_option maxRecDepth 100000 in
theorem go_X1_spread_0 {nc : Nat} {C : tf_C} {Q : tf_Q} {h : LH} (hn : 270 ≤ nc) {x0 : Nat} {x1 nx1 : Nat} (Kx0_0 : tf_K x0 = 0) (Kx1_0 : tf_K x1 = 8) (Nx1_0 : tf_N x1 = nx1) (Bx1 : x1 < nc) (q : lx_X1_spread nc C Q 2 [.ref (x0), .ref (x1), .int (0), tf_z, tf_z] [] h) : lx_X1_spread nc C Q 0 [.ref (x0), .ref (x1), tf_z, tf_z, tf_z] [] h := by
  obtain ⟨Bx0, ⟨Kx0_1, Kx0_2, Kx0_3, Kx0_4, Kx0_5, Kx0_6, Kx0_7, Kx0_8, Kx0_9, Kx0_10, Kx0_11, Kx0_12, Kx0_13, Kx0_14⟩, ⟨Nx0_1, Nx0_2, Nx0_3, Nx0_4, Nx0_5, Nx0_6, Nx0_7, Nx0_8, Nx0_9, Nx0_10, Nx0_12, Nx0_13, Nx0_14⟩⟩ := tn_net Kx0_0
  refine tf_LW_go ?_
  show lx_X1_spread nc C Q 2 [.ref (x0), .ref (x1), .int (0), tf_z, tf_z] [] h
  try simp only [Nx1_0]
  exact q
theorem en_X1_spread {nc d : Nat} {Q : tf_Q} {h : LH} (hn : 270 ≤ nc) {x0 : Nat} {x1 nx1 : Nat} (Kx0_0 : tf_K x0 = 0) (Kx1_0 : tf_K x1 = 8) (Nx1_0 : tf_N x1 = nx1) (Bx1 : x1 < nc) (q : lx_X1_spread nc (tf_Cd nc d) Q 0 [.ref (x0), .ref (x1), tf_z, tf_z, tf_z] [] h) : tf_Cd nc (d + 1) 149 [.ref (x0), .ref (x1)] h Q := by
  obtain ⟨Bx0, ⟨Kx0_1, Kx0_2, Kx0_3, Kx0_4, Kx0_5, Kx0_6, Kx0_7, Kx0_8, Kx0_9, Kx0_10, Kx0_11, Kx0_12, Kx0_13, Kx0_14⟩, ⟨Nx0_1, Nx0_2, Nx0_3, Nx0_4, Nx0_5, Nx0_6, Nx0_7, Nx0_8, Nx0_9, Nx0_10, Nx0_12, Nx0_13, Nx0_14⟩⟩ := tn_net Kx0_0
  exact ⟨⟨Nat.le_of_ble_eq_true rfl, Or.inr ⟨Kx0_0, (show x0 < nc by omega)⟩⟩, q⟩
set_option maxRecDepth 100000 in
theorem go_X1_spread_2 {nc : Nat} {C : tf_C} {Q : tf_Q} {h : LH} (hn : 270 ≤ nc) {x0 : Nat} {x1 nx1 : Nat} {x2 : Int32} {x3 : Value} {x4 : Value} (Kx0_0 : tf_K x0 = 0) (Kx1_0 : tf_K x1 = 8) (Nx1_0 : tf_N x1 = nx1) (Bx1 : x1 < nc) (q : ((h.1 x0 1) ≤ x2 → lx_X1_spread nc C Q 93 [.ref (x0), .ref (x1), .int (x2), x3, x4] [] h) ∧ (¬ (h.1 x0 1) ≤ x2 → (vp_in x2 21) ∧ ((h.1 (x0 + 7) (x2 : Int32).toNatClampNeg) = (3 : Int32) → lx_X1_spread nc C Q 87 [.ref (x0), .ref (x1), .int (x2), x3, x4] [] h) ∧ (¬ (h.1 (x0 + 7) (x2 : Int32).toNatClampNeg) = (3 : Int32) → (vp_in x2 21) ∧ (vp_in x2 21) ∧ (vp_in (h.1 (x0 + 3) (x2 : Int32).toNatClampNeg) nx1) ∧ (vp_in (h.1 (x0 + 2) (x2 : Int32).toNatClampNeg) nx1) ∧ (vp_in x2 21) ∧ (vp_in x2 21) ∧ C 1002 [.int (h.1 x1 (h.1 (x0 + 2) (x2 : Int32).toNatClampNeg : Int32).toNatClampNeg), .int ((h.1 (x0 + 4) (x2 : Int32).toNatClampNeg) - (h.1 (x0 + 6) (x2 : Int32).toNatClampNeg))] h (fun r g => lx_X1_spread nc C Q 61 [.ref (x0), .ref (x1), .int (x2), .int (h.1 (x0 + 2) (x2 : Int32).toNatClampNeg), .int (h.1 (x0 + 3) (x2 : Int32).toNatClampNeg)] (r :: [.int (h.1 x1 (h.1 (x0 + 3) (x2 : Int32).toNatClampNeg : Int32).toNatClampNeg), .int (h.1 (x0 + 3) (x2 : Int32).toNatClampNeg), .ref (x1)]) g)))) : lx_X1_spread nc C Q 2 [.ref (x0), .ref (x1), .int (x2), x3, x4] [] h := by
  obtain ⟨Bx0, ⟨Kx0_1, Kx0_2, Kx0_3, Kx0_4, Kx0_5, Kx0_6, Kx0_7, Kx0_8, Kx0_9, Kx0_10, Kx0_11, Kx0_12, Kx0_13, Kx0_14⟩, ⟨Nx0_1, Nx0_2, Nx0_3, Nx0_4, Nx0_5, Nx0_6, Nx0_7, Nx0_8, Nx0_9, Nx0_10, Nx0_12, Nx0_13, Nx0_14⟩⟩ := tn_net Kx0_0
  refine tf_LW_go ?_
  show (tf_K x0 = 0 ∧ x0 < nc) ∧ ((h.1 x0 1) ≤ x2 → lx_X1_spread nc C Q 93 [.ref (x0), .ref (x1), .int (x2), x3, x4] [] h) ∧ (¬ (h.1 x0 1) ≤ x2 → (tf_K x0 = 0 ∧ x0 < nc) ∧ (tf_K (tf_R x0 9) = 8 ∧ (tf_R x0 9) < nc ∧ vp_in x2 (tf_N (tf_R x0 9))) ∧ ((h.1 (tf_R x0 9) (x2 : Int32).toNatClampNeg) = (3 : Int32) → lx_X1_spread nc C Q 87 [.ref (x0), .ref (x1), .int (x2), x3, x4] [] h) ∧ (¬ (h.1 (tf_R x0 9) (x2 : Int32).toNatClampNeg) = (3 : Int32) → (tf_K x0 = 0 ∧ x0 < nc) ∧ (tf_K (tf_R x0 4) = 8 ∧ (tf_R x0 4) < nc ∧ vp_in x2 (tf_N (tf_R x0 4))) ∧ (tf_K x0 = 0 ∧ x0 < nc) ∧ (tf_K (tf_R x0 5) = 8 ∧ (tf_R x0 5) < nc ∧ vp_in x2 (tf_N (tf_R x0 5))) ∧ (tf_K x1 = 8 ∧ x1 < nc ∧ vp_in (h.1 (tf_R x0 5) (x2 : Int32).toNatClampNeg) (tf_N x1)) ∧ (tf_K x1 = 8 ∧ x1 < nc ∧ vp_in (h.1 (tf_R x0 4) (x2 : Int32).toNatClampNeg) (tf_N x1)) ∧ (tf_K x0 = 0 ∧ x0 < nc) ∧ (tf_K (tf_R x0 6) = 8 ∧ (tf_R x0 6) < nc ∧ vp_in x2 (tf_N (tf_R x0 6))) ∧ (tf_K x0 = 0 ∧ x0 < nc) ∧ (tf_K (tf_R x0 8) = 8 ∧ (tf_R x0 8) < nc ∧ vp_in x2 (tf_N (tf_R x0 8))) ∧ 2 ≤ 5 ∧ 3 ≤ 8 ∧ C 1002 [.int (h.1 x1 (h.1 (tf_R x0 4) (x2 : Int32).toNatClampNeg : Int32).toNatClampNeg), .int ((h.1 (tf_R x0 6) (x2 : Int32).toNatClampNeg) - (h.1 (tf_R x0 8) (x2 : Int32).toNatClampNeg))] h (fun r g => lx_X1_spread nc C Q 61 [.ref (x0), .ref (x1), .int (x2), .int (h.1 (tf_R x0 4) (x2 : Int32).toNatClampNeg), .int (h.1 (tf_R x0 5) (x2 : Int32).toNatClampNeg)] (r :: [.int (h.1 x1 (h.1 (tf_R x0 5) (x2 : Int32).toNatClampNeg : Int32).toNatClampNeg), .int (h.1 (tf_R x0 5) (x2 : Int32).toNatClampNeg), .ref (x1)]) g)))
  try simp only [(show tf_R x0 4 = x0 + 2 by rw [tn_R0 Kx0_0]; try omega), (show tf_R x0 5 = x0 + 3 by rw [tn_R0 Kx0_0]; try omega), (show tf_R x0 6 = x0 + 4 by rw [tn_R0 Kx0_0]; try omega), (show tf_R x0 8 = x0 + 6 by rw [tn_R0 Kx0_0]; try omega), (show tf_R x0 9 = x0 + 7 by rw [tn_R0 Kx0_0]; try omega), Nx0_2, Nx0_3, Nx0_4, Nx0_6, Nx0_7, Nx1_0]
  exact ⟨⟨Kx0_0, (show x0 < nc by omega)⟩, ⟨q.1, fun c2 => ⟨⟨Kx0_0, (show x0 < nc by omega)⟩, ⟨⟨Kx0_7, (show x0 + 7 < nc by omega), (q.2 c2).1⟩, ⟨(q.2 c2).2.1, fun c1 => ⟨⟨Kx0_0, (show x0 < nc by omega)⟩, ⟨⟨Kx0_2, (show x0 + 2 < nc by omega), ((q.2 c2).2.2 c1).1⟩, ⟨⟨Kx0_0, (show x0 < nc by omega)⟩, ⟨⟨Kx0_3, (show x0 + 3 < nc by omega), ((q.2 c2).2.2 c1).2.1⟩, ⟨⟨Kx1_0, (show x1 < nc by omega), ((q.2 c2).2.2 c1).2.2.1⟩, ⟨⟨Kx1_0, (show x1 < nc by omega), ((q.2 c2).2.2 c1).2.2.2.1⟩, ⟨⟨Kx0_0, (show x0 < nc by omega)⟩, ⟨⟨Kx0_4, (show x0 + 4 < nc by omega), ((q.2 c2).2.2 c1).2.2.2.2.1⟩, ⟨⟨Kx0_0, (show x0 < nc by omega)⟩, ⟨⟨Kx0_6, (show x0 + 6 < nc by omega), ((q.2 c2).2.2 c1).2.2.2.2.2.1⟩, ⟨Nat.le_of_ble_eq_true rfl, Nat.le_of_ble_eq_true rfl, ((q.2 c2).2.2 c1).2.2.2.2.2.2⟩⟩⟩⟩⟩⟩⟩⟩⟩⟩⟩⟩⟩⟩⟩⟩
set_option maxRecDepth 100000 in
theorem go_X1_spread_61 {nc : Nat} {C : tf_C} {Q : tf_Q} {h : LH} (hn : 270 ≤ nc) {x0 : Nat} {x1 nx1 : Nat} {x2 : Int32} {x3 : Int32} {x4 : Int32} {y0 ny0 : Nat} {y1 : Int32} {y2 : Int32} {y3 : Int32} (Kx0_0 : tf_K x0 = 0) (Kx1_0 : tf_K x1 = 8) (Nx1_0 : tf_N x1 = nx1) (Bx1 : x1 < nc) (Ky0_0 : tf_K y0 = 8) (Ny0_0 : tf_N y0 = ny0) (By0 : y0 < nc) (q : C 1001 [.int (y2), .int (y3)] h (fun r g => lx_X1_spread nc C Q 64 [.ref (x0), .ref (x1), .int (x2), .int (x3), .int (x4)] (r :: [.int (y1), .ref (y0)]) g)) : lx_X1_spread nc C Q 61 [.ref (x0), .ref (x1), .int (x2), .int (x3), .int (x4)] [.int (y3), .int (y2), .int (y1), .ref (y0)] h := by
  obtain ⟨Bx0, ⟨Kx0_1, Kx0_2, Kx0_3, Kx0_4, Kx0_5, Kx0_6, Kx0_7, Kx0_8, Kx0_9, Kx0_10, Kx0_11, Kx0_12, Kx0_13, Kx0_14⟩, ⟨Nx0_1, Nx0_2, Nx0_3, Nx0_4, Nx0_5, Nx0_6, Nx0_7, Nx0_8, Nx0_9, Nx0_10, Nx0_12, Nx0_13, Nx0_14⟩⟩ := tn_net Kx0_0
  refine tf_LW_go ?_
  show 2 ≤ 4 ∧ 2 ≤ 8 ∧ C 1001 [.int (y2), .int (y3)] h (fun r g => lx_X1_spread nc C Q 64 [.ref (x0), .ref (x1), .int (x2), .int (x3), .int (x4)] (r :: [.int (y1), .ref (y0)]) g)
  try simp only [Nx1_0, Ny0_0]
  exact ⟨Nat.le_of_ble_eq_true rfl, Nat.le_of_ble_eq_true rfl, q⟩
set_option maxRecDepth 100000 in
theorem go_X1_spread_64 {nc : Nat} {C : tf_C} {Q : tf_Q} {h : LH} (hn : 270 ≤ nc) {x0 : Nat} {x1 nx1 : Nat} {x2 : Int32} {x3 : Int32} {x4 : Int32} {y0 ny0 : Nat} {y1 : Int32} {y2 : Int32} (Kx0_0 : tf_K x0 = 0) (Kx1_0 : tf_K x1 = 8) (Nx1_0 : tf_N x1 = nx1) (Bx1 : x1 < nc) (Ky0_0 : tf_K y0 = 8) (Ny0_0 : tf_N y0 = ny0) (By0 : y0 < nc) (q : (vp_in y1 ny0) ∧ (vp_in x3 nx1) ∧ (vp_in x4 nx1) ∧ (vp_in x2 21) ∧ C 1002 [.int ((tf_up h.1 y0 (y1 : Int32).toNatClampNeg y2) x1 (x4 : Int32).toNatClampNeg), .int ((tf_up h.1 y0 (y1 : Int32).toNatClampNeg y2) (x0 + 6) (x2 : Int32).toNatClampNeg)] (tf_up h.1 y0 (y1 : Int32).toNatClampNeg y2, h.2) (fun r g => lx_X1_spread nc C Q 83 [.ref (x0), .ref (x1), .int (x2), .int (x3), .int (x4)] (r :: [.int ((tf_up h.1 y0 (y1 : Int32).toNatClampNeg y2) x1 (x3 : Int32).toNatClampNeg), .int (x3), .ref (x1)]) g)) : lx_X1_spread nc C Q 64 [.ref (x0), .ref (x1), .int (x2), .int (x3), .int (x4)] [.int (y2), .int (y1), .ref (y0)] h := by
  obtain ⟨Bx0, ⟨Kx0_1, Kx0_2, Kx0_3, Kx0_4, Kx0_5, Kx0_6, Kx0_7, Kx0_8, Kx0_9, Kx0_10, Kx0_11, Kx0_12, Kx0_13, Kx0_14⟩, ⟨Nx0_1, Nx0_2, Nx0_3, Nx0_4, Nx0_5, Nx0_6, Nx0_7, Nx0_8, Nx0_9, Nx0_10, Nx0_12, Nx0_13, Nx0_14⟩⟩ := tn_net Kx0_0
  refine tf_LW_go ?_
  show (tf_K y0 = 8 ∧ y0 < nc ∧ vp_in y1 (tf_N y0)) ∧ (tf_K x1 = 8 ∧ x1 < nc ∧ vp_in x3 (tf_N x1)) ∧ (tf_K x1 = 8 ∧ x1 < nc ∧ vp_in x4 (tf_N x1)) ∧ (tf_K x0 = 0 ∧ x0 < nc) ∧ (tf_K (tf_R x0 8) = 8 ∧ (tf_R x0 8) < nc ∧ vp_in x2 (tf_N (tf_R x0 8))) ∧ 2 ≤ 5 ∧ 3 ≤ 8 ∧ C 1002 [.int ((tf_up h.1 y0 (y1 : Int32).toNatClampNeg y2) x1 (x4 : Int32).toNatClampNeg), .int ((tf_up h.1 y0 (y1 : Int32).toNatClampNeg y2) (tf_R x0 8) (x2 : Int32).toNatClampNeg)] (tf_up h.1 y0 (y1 : Int32).toNatClampNeg y2, h.2) (fun r g => lx_X1_spread nc C Q 83 [.ref (x0), .ref (x1), .int (x2), .int (x3), .int (x4)] (r :: [.int ((tf_up h.1 y0 (y1 : Int32).toNatClampNeg y2) x1 (x3 : Int32).toNatClampNeg), .int (x3), .ref (x1)]) g)
  try simp only [(show tf_R x0 8 = x0 + 6 by rw [tn_R0 Kx0_0]; try omega), Nx0_6, Nx1_0, Ny0_0]
  exact ⟨⟨Ky0_0, (show y0 < nc by omega), q.1⟩, ⟨⟨Kx1_0, (show x1 < nc by omega), q.2.1⟩, ⟨⟨Kx1_0, (show x1 < nc by omega), q.2.2.1⟩, ⟨⟨Kx0_0, (show x0 < nc by omega)⟩, ⟨⟨Kx0_6, (show x0 + 6 < nc by omega), q.2.2.2.1⟩, ⟨Nat.le_of_ble_eq_true rfl, Nat.le_of_ble_eq_true rfl, q.2.2.2.2⟩⟩⟩⟩⟩⟩
set_option maxRecDepth 100000 in
theorem go_X1_spread_83 {nc : Nat} {C : tf_C} {Q : tf_Q} {h : LH} (hn : 270 ≤ nc) {x0 : Nat} {x1 nx1 : Nat} {x2 : Int32} {x3 : Int32} {x4 : Int32} {y0 ny0 : Nat} {y1 : Int32} {y2 : Int32} {y3 : Int32} (Kx0_0 : tf_K x0 = 0) (Kx1_0 : tf_K x1 = 8) (Nx1_0 : tf_N x1 = nx1) (Bx1 : x1 < nc) (Ky0_0 : tf_K y0 = 8) (Ny0_0 : tf_N y0 = ny0) (By0 : y0 < nc) (q : C 1001 [.int (y2), .int (y3)] h (fun r g => lx_X1_spread nc C Q 86 [.ref (x0), .ref (x1), .int (x2), .int (x3), .int (x4)] (r :: [.int (y1), .ref (y0)]) g)) : lx_X1_spread nc C Q 83 [.ref (x0), .ref (x1), .int (x2), .int (x3), .int (x4)] [.int (y3), .int (y2), .int (y1), .ref (y0)] h := by
  obtain ⟨Bx0, ⟨Kx0_1, Kx0_2, Kx0_3, Kx0_4, Kx0_5, Kx0_6, Kx0_7, Kx0_8, Kx0_9, Kx0_10, Kx0_11, Kx0_12, Kx0_13, Kx0_14⟩, ⟨Nx0_1, Nx0_2, Nx0_3, Nx0_4, Nx0_5, Nx0_6, Nx0_7, Nx0_8, Nx0_9, Nx0_10, Nx0_12, Nx0_13, Nx0_14⟩⟩ := tn_net Kx0_0
  refine tf_LW_go ?_
  show 2 ≤ 4 ∧ 2 ≤ 8 ∧ C 1001 [.int (y2), .int (y3)] h (fun r g => lx_X1_spread nc C Q 86 [.ref (x0), .ref (x1), .int (x2), .int (x3), .int (x4)] (r :: [.int (y1), .ref (y0)]) g)
  try simp only [Nx1_0, Ny0_0]
  exact ⟨Nat.le_of_ble_eq_true rfl, Nat.le_of_ble_eq_true rfl, q⟩
set_option maxRecDepth 100000 in
theorem go_X1_spread_86 {nc : Nat} {C : tf_C} {Q : tf_Q} {h : LH} (hn : 270 ≤ nc) {x0 : Nat} {x1 nx1 : Nat} {x2 : Int32} {x3 : Int32} {x4 : Int32} {y0 ny0 : Nat} {y1 : Int32} {y2 : Int32} (Kx0_0 : tf_K x0 = 0) (Kx1_0 : tf_K x1 = 8) (Nx1_0 : tf_N x1 = nx1) (Bx1 : x1 < nc) (Ky0_0 : tf_K y0 = 8) (Ny0_0 : tf_N y0 = ny0) (By0 : y0 < nc) (q : (vp_in y1 ny0) ∧ lx_X1_spread nc C Q 87 [.ref (x0), .ref (x1), .int (x2), .int (x3), .int (x4)] [] (tf_up h.1 y0 (y1 : Int32).toNatClampNeg y2, h.2)) : lx_X1_spread nc C Q 86 [.ref (x0), .ref (x1), .int (x2), .int (x3), .int (x4)] [.int (y2), .int (y1), .ref (y0)] h := by
  obtain ⟨Bx0, ⟨Kx0_1, Kx0_2, Kx0_3, Kx0_4, Kx0_5, Kx0_6, Kx0_7, Kx0_8, Kx0_9, Kx0_10, Kx0_11, Kx0_12, Kx0_13, Kx0_14⟩, ⟨Nx0_1, Nx0_2, Nx0_3, Nx0_4, Nx0_5, Nx0_6, Nx0_7, Nx0_8, Nx0_9, Nx0_10, Nx0_12, Nx0_13, Nx0_14⟩⟩ := tn_net Kx0_0
  refine tf_LW_go ?_
  show (tf_K y0 = 8 ∧ y0 < nc ∧ vp_in y1 (tf_N y0)) ∧ lx_X1_spread nc C Q 87 [.ref (x0), .ref (x1), .int (x2), .int (x3), .int (x4)] [] (tf_up h.1 y0 (y1 : Int32).toNatClampNeg y2, h.2)
  try simp only [Nx1_0, Ny0_0]
  exact ⟨⟨Ky0_0, (show y0 < nc by omega), q.1⟩, q.2⟩
set_option maxRecDepth 100000 in
theorem go_X1_spread_87 {nc : Nat} {C : tf_C} {Q : tf_Q} {h : LH} (hn : 270 ≤ nc) {x0 : Nat} {x1 nx1 : Nat} {x2 : Int32} {x3 : Value} {x4 : Value} (Kx0_0 : tf_K x0 = 0) (Kx1_0 : tf_K x1 = 8) (Nx1_0 : tf_N x1 = nx1) (Bx1 : x1 < nc) (q : lx_X1_spread nc C Q 2 [.ref (x0), .ref (x1), .int (x2 + 1), x3, x4] [] h) : lx_X1_spread nc C Q 87 [.ref (x0), .ref (x1), .int (x2), x3, x4] [] h := by
  obtain ⟨Bx0, ⟨Kx0_1, Kx0_2, Kx0_3, Kx0_4, Kx0_5, Kx0_6, Kx0_7, Kx0_8, Kx0_9, Kx0_10, Kx0_11, Kx0_12, Kx0_13, Kx0_14⟩, ⟨Nx0_1, Nx0_2, Nx0_3, Nx0_4, Nx0_5, Nx0_6, Nx0_7, Nx0_8, Nx0_9, Nx0_10, Nx0_12, Nx0_13, Nx0_14⟩⟩ := tn_net Kx0_0
  refine tf_LW_go ?_
  show lx_X1_spread nc C Q 2 [.ref (x0), .ref (x1), .int (x2 + 1), x3, x4] [] h
  try simp only [Nx1_0]
  exact q
set_option maxRecDepth 100000 in
theorem go_X1_spread_93 {nc : Nat} {C : tf_C} {Q : tf_Q} {h : LH} (hn : 270 ≤ nc) {x0 : Nat} {x1 nx1 : Nat} {x2 : Int32} {x3 : Value} {x4 : Value} (Kx0_0 : tf_K x0 = 0) (Kx1_0 : tf_K x1 = 8) (Nx1_0 : tf_N x1 = nx1) (Bx1 : x1 < nc) (q : Q tf_z h) : lx_X1_spread nc C Q 93 [.ref (x0), .ref (x1), .int (x2), x3, x4] [] h := by
  obtain ⟨Bx0, ⟨Kx0_1, Kx0_2, Kx0_3, Kx0_4, Kx0_5, Kx0_6, Kx0_7, Kx0_8, Kx0_9, Kx0_10, Kx0_11, Kx0_12, Kx0_13, Kx0_14⟩, ⟨Nx0_1, Nx0_2, Nx0_3, Nx0_4, Nx0_5, Nx0_6, Nx0_7, Nx0_8, Nx0_9, Nx0_10, Nx0_12, Nx0_13, Nx0_14⟩⟩ := tn_net Kx0_0
  refine tf_LW_go ?_
  show 0 = 0 ∧ Q tf_z h
  try simp only [Nx1_0]
  exact ⟨(by first | rfl | trivial), q⟩
abbrev lx_X1_shortOf (nc : Nat) (C : tf_C) (Q : tf_Q) : tf_X := tf_LW nc C (tf_F 0) (tf_M 0) (tf_I 0) (tf_Eh 150) 1 tb_X1_shortOf Q
set_option maxRecDepth 100000 in
theorem go_X1_shortOf_0 {nc : Nat} {C : tf_C} {Q : tf_Q} {h : LH} (hn : 270 ≤ nc) {x0 : Nat} {x1 : Int32} (Kx0_0 : tf_K x0 = 0) (q : lx_X1_shortOf nc C Q 4 [.ref (x0), .int (x1), .int (0), .int (0)] [] h) : lx_X1_shortOf nc C Q 0 [.ref (x0), .int (x1), tf_z, tf_z] [] h := by
  obtain ⟨Bx0, ⟨Kx0_1, Kx0_2, Kx0_3, Kx0_4, Kx0_5, Kx0_6, Kx0_7, Kx0_8, Kx0_9, Kx0_10, Kx0_11, Kx0_12, Kx0_13, Kx0_14⟩, ⟨Nx0_1, Nx0_2, Nx0_3, Nx0_4, Nx0_5, Nx0_6, Nx0_7, Nx0_8, Nx0_9, Nx0_10, Nx0_12, Nx0_13, Nx0_14⟩⟩ := tn_net Kx0_0
  refine tf_LW_go ?_
  exact q
theorem en_X1_shortOf {nc d : Nat} {Q : tf_Q} {h : LH} (hn : 270 ≤ nc) {x0 : Nat} {x1 : Int32} (Kx0_0 : tf_K x0 = 0) (q : lx_X1_shortOf nc (tf_Cd nc d) Q 0 [.ref (x0), .int (x1), tf_z, tf_z] [] h) : tf_Cd nc (d + 1) 150 [.ref (x0), .int (x1)] h Q := by
  obtain ⟨Bx0, ⟨Kx0_1, Kx0_2, Kx0_3, Kx0_4, Kx0_5, Kx0_6, Kx0_7, Kx0_8, Kx0_9, Kx0_10, Kx0_11, Kx0_12, Kx0_13, Kx0_14⟩, ⟨Nx0_1, Nx0_2, Nx0_3, Nx0_4, Nx0_5, Nx0_6, Nx0_7, Nx0_8, Nx0_9, Nx0_10, Nx0_12, Nx0_13, Nx0_14⟩⟩ := tn_net Kx0_0
  exact ⟨⟨Nat.le_of_ble_eq_true rfl, Or.inr ⟨Kx0_0, (show x0 < nc by omega)⟩⟩, q⟩
set_option maxRecDepth 100000 in
theorem go_X1_shortOf_4 {nc : Nat} {C : tf_C} {Q : tf_Q} {h : LH} (hn : 270 ≤ nc) {x0 : Nat} {x1 : Int32} {x2 : Int32} {x3 : Int32} (Kx0_0 : tf_K x0 = 0) (q : ((h.1 x0 0) ≤ x3 → lx_X1_shortOf nc C Q 36 [.ref (x0), .int (x1), .int (x2), .int (x3)] [] h) ∧ (¬ (h.1 x0 0) ≤ x3 → (((x1 >>> (x3 &&& 31)) &&& 1) = (1 : Int32) → (vp_in x3 7) ∧ lx_X1_shortOf nc C Q 30 [.ref (x0), .int (x1), .int (x2 + (h.1 (x0 + 1) (x3 : Int32).toNatClampNeg)), .int (x3)] [] h) ∧ (¬ ((x1 >>> (x3 &&& 31)) &&& 1) = (1 : Int32) → lx_X1_shortOf nc C Q 30 [.ref (x0), .int (x1), .int (x2), .int (x3)] [] h))) : lx_X1_shortOf nc C Q 4 [.ref (x0), .int (x1), .int (x2), .int (x3)] [] h := by
  obtain ⟨Bx0, ⟨Kx0_1, Kx0_2, Kx0_3, Kx0_4, Kx0_5, Kx0_6, Kx0_7, Kx0_8, Kx0_9, Kx0_10, Kx0_11, Kx0_12, Kx0_13, Kx0_14⟩, ⟨Nx0_1, Nx0_2, Nx0_3, Nx0_4, Nx0_5, Nx0_6, Nx0_7, Nx0_8, Nx0_9, Nx0_10, Nx0_12, Nx0_13, Nx0_14⟩⟩ := tn_net Kx0_0
  refine tf_LW_go ?_
  show (tf_K x0 = 0 ∧ x0 < nc) ∧ ((h.1 x0 0) ≤ x3 → lx_X1_shortOf nc C Q 36 [.ref (x0), .int (x1), .int (x2), .int (x3)] [] h) ∧ (¬ (h.1 x0 0) ≤ x3 → (((x1 >>> (x3 &&& 31)) &&& 1) = (1 : Int32) → (tf_K x0 = 0 ∧ x0 < nc) ∧ (tf_K (tf_R x0 3) = 8 ∧ (tf_R x0 3) < nc ∧ vp_in x3 (tf_N (tf_R x0 3))) ∧ lx_X1_shortOf nc C Q 30 [.ref (x0), .int (x1), .int (x2 + (h.1 (tf_R x0 3) (x3 : Int32).toNatClampNeg)), .int (x3)] [] h) ∧ (¬ ((x1 >>> (x3 &&& 31)) &&& 1) = (1 : Int32) → lx_X1_shortOf nc C Q 30 [.ref (x0), .int (x1), .int (x2), .int (x3)] [] h))
  try simp only [(show tf_R x0 3 = x0 + 1 by rw [tn_R0 Kx0_0]; try omega), Nx0_1]
  exact ⟨⟨Kx0_0, (show x0 < nc by omega)⟩, ⟨q.1, fun c2 => ⟨fun c1 => ⟨⟨Kx0_0, (show x0 < nc by omega)⟩, ⟨⟨Kx0_1, (show x0 + 1 < nc by omega), ((q.2 c2).1 c1).1⟩, ((q.2 c2).1 c1).2⟩⟩, (q.2 c2).2⟩⟩⟩
set_option maxRecDepth 100000 in
theorem go_X1_shortOf_30 {nc : Nat} {C : tf_C} {Q : tf_Q} {h : LH} (hn : 270 ≤ nc) {x0 : Nat} {x1 : Int32} {x2 : Int32} {x3 : Int32} (Kx0_0 : tf_K x0 = 0) (q : lx_X1_shortOf nc C Q 4 [.ref (x0), .int (x1), .int (x2), .int (x3 + 1)] [] h) : lx_X1_shortOf nc C Q 30 [.ref (x0), .int (x1), .int (x2), .int (x3)] [] h := by
  obtain ⟨Bx0, ⟨Kx0_1, Kx0_2, Kx0_3, Kx0_4, Kx0_5, Kx0_6, Kx0_7, Kx0_8, Kx0_9, Kx0_10, Kx0_11, Kx0_12, Kx0_13, Kx0_14⟩, ⟨Nx0_1, Nx0_2, Nx0_3, Nx0_4, Nx0_5, Nx0_6, Nx0_7, Nx0_8, Nx0_9, Nx0_10, Nx0_12, Nx0_13, Nx0_14⟩⟩ := tn_net Kx0_0
  refine tf_LW_go ?_
  exact q
set_option maxRecDepth 100000 in
theorem go_X1_shortOf_36 {nc : Nat} {C : tf_C} {Q : tf_Q} {h : LH} (hn : 270 ≤ nc) {x0 : Nat} {x1 : Int32} {x2 : Int32} {x3 : Int32} (Kx0_0 : tf_K x0 = 0) (q : lx_X1_shortOf nc C Q 38 [.ref (x0), .int (x1), .int (x2), .int (0)] [] h) : lx_X1_shortOf nc C Q 36 [.ref (x0), .int (x1), .int (x2), .int (x3)] [] h := by
  obtain ⟨Bx0, ⟨Kx0_1, Kx0_2, Kx0_3, Kx0_4, Kx0_5, Kx0_6, Kx0_7, Kx0_8, Kx0_9, Kx0_10, Kx0_11, Kx0_12, Kx0_13, Kx0_14⟩, ⟨Nx0_1, Nx0_2, Nx0_3, Nx0_4, Nx0_5, Nx0_6, Nx0_7, Nx0_8, Nx0_9, Nx0_10, Nx0_12, Nx0_13, Nx0_14⟩⟩ := tn_net Kx0_0
  refine tf_LW_go ?_
  exact q
set_option maxRecDepth 100000 in
theorem go_X1_shortOf_38 {nc : Nat} {C : tf_C} {Q : tf_Q} {h : LH} (hn : 270 ≤ nc) {x0 : Nat} {x1 : Int32} {x2 : Int32} {x3 : Int32} (Kx0_0 : tf_K x0 = 0) (q : ((h.1 x0 1) ≤ x3 → lx_X1_shortOf nc C Q 98 [.ref (x0), .int (x1), .int (x2), .int (x3)] [] h) ∧ (¬ (h.1 x0 1) ≤ x3 → (vp_in x3 21) ∧ ((h.1 (x0 + 7) (x3 : Int32).toNatClampNeg) = (3 : Int32) → lx_X1_shortOf nc C Q 92 [.ref (x0), .int (x1), .int (x2), .int (x3)] [] h) ∧ (¬ (h.1 (x0 + 7) (x3 : Int32).toNatClampNeg) = (3 : Int32) → (vp_in x3 21) ∧ (((x1 >>> (h.1 (x0 + 2) (x3 : Int32).toNatClampNeg &&& 31)) &&& 1) = (1 : Int32) → (vp_in x3 21) ∧ (((x1 >>> (h.1 (x0 + 3) (x3 : Int32).toNatClampNeg &&& 31)) &&& 1) = (0 : Int32) → (vp_in x3 21) ∧ lx_X1_shortOf nc C Q 92 [.ref (x0), .int (x1), .int (x2 - (h.1 (x0 + 4) (x3 : Int32).toNatClampNeg)), .int (x3)] [] h) ∧ (¬ ((x1 >>> (h.1 (x0 + 3) (x3 : Int32).toNatClampNeg &&& 31)) &&& 1) = (0 : Int32) → lx_X1_shortOf nc C Q 92 [.ref (x0), .int (x1), .int (x2), .int (x3)] [] h)) ∧ (¬ ((x1 >>> (h.1 (x0 + 2) (x3 : Int32).toNatClampNeg &&& 31)) &&& 1) = (1 : Int32) → lx_X1_shortOf nc C Q 92 [.ref (x0), .int (x1), .int (x2), .int (x3)] [] h)))) : lx_X1_shortOf nc C Q 38 [.ref (x0), .int (x1), .int (x2), .int (x3)] [] h := by
  obtain ⟨Bx0, ⟨Kx0_1, Kx0_2, Kx0_3, Kx0_4, Kx0_5, Kx0_6, Kx0_7, Kx0_8, Kx0_9, Kx0_10, Kx0_11, Kx0_12, Kx0_13, Kx0_14⟩, ⟨Nx0_1, Nx0_2, Nx0_3, Nx0_4, Nx0_5, Nx0_6, Nx0_7, Nx0_8, Nx0_9, Nx0_10, Nx0_12, Nx0_13, Nx0_14⟩⟩ := tn_net Kx0_0
  refine tf_LW_go ?_
  show (tf_K x0 = 0 ∧ x0 < nc) ∧ ((h.1 x0 1) ≤ x3 → lx_X1_shortOf nc C Q 98 [.ref (x0), .int (x1), .int (x2), .int (x3)] [] h) ∧ (¬ (h.1 x0 1) ≤ x3 → (tf_K x0 = 0 ∧ x0 < nc) ∧ (tf_K (tf_R x0 9) = 8 ∧ (tf_R x0 9) < nc ∧ vp_in x3 (tf_N (tf_R x0 9))) ∧ ((h.1 (tf_R x0 9) (x3 : Int32).toNatClampNeg) = (3 : Int32) → lx_X1_shortOf nc C Q 92 [.ref (x0), .int (x1), .int (x2), .int (x3)] [] h) ∧ (¬ (h.1 (tf_R x0 9) (x3 : Int32).toNatClampNeg) = (3 : Int32) → (tf_K x0 = 0 ∧ x0 < nc) ∧ (tf_K (tf_R x0 4) = 8 ∧ (tf_R x0 4) < nc ∧ vp_in x3 (tf_N (tf_R x0 4))) ∧ (((x1 >>> (h.1 (tf_R x0 4) (x3 : Int32).toNatClampNeg &&& 31)) &&& 1) = (1 : Int32) → (tf_K x0 = 0 ∧ x0 < nc) ∧ (tf_K (tf_R x0 5) = 8 ∧ (tf_R x0 5) < nc ∧ vp_in x3 (tf_N (tf_R x0 5))) ∧ (((x1 >>> (h.1 (tf_R x0 5) (x3 : Int32).toNatClampNeg &&& 31)) &&& 1) = (0 : Int32) → (tf_K x0 = 0 ∧ x0 < nc) ∧ (tf_K (tf_R x0 6) = 8 ∧ (tf_R x0 6) < nc ∧ vp_in x3 (tf_N (tf_R x0 6))) ∧ lx_X1_shortOf nc C Q 92 [.ref (x0), .int (x1), .int (x2 - (h.1 (tf_R x0 6) (x3 : Int32).toNatClampNeg)), .int (x3)] [] h) ∧ (¬ ((x1 >>> (h.1 (tf_R x0 5) (x3 : Int32).toNatClampNeg &&& 31)) &&& 1) = (0 : Int32) → lx_X1_shortOf nc C Q 92 [.ref (x0), .int (x1), .int (x2), .int (x3)] [] h)) ∧ (¬ ((x1 >>> (h.1 (tf_R x0 4) (x3 : Int32).toNatClampNeg &&& 31)) &&& 1) = (1 : Int32) → lx_X1_shortOf nc C Q 92 [.ref (x0), .int (x1), .int (x2), .int (x3)] [] h)))
  try simp only [(show tf_R x0 4 = x0 + 2 by rw [tn_R0 Kx0_0]; try omega), (show tf_R x0 5 = x0 + 3 by rw [tn_R0 Kx0_0]; try omega), (show tf_R x0 6 = x0 + 4 by rw [tn_R0 Kx0_0]; try omega), (show tf_R x0 9 = x0 + 7 by rw [tn_R0 Kx0_0]; try omega), Nx0_2, Nx0_3, Nx0_4, Nx0_7]
  exact ⟨⟨Kx0_0, (show x0 < nc by omega)⟩, ⟨q.1, fun c4 => ⟨⟨Kx0_0, (show x0 < nc by omega)⟩, ⟨⟨Kx0_7, (show x0 + 7 < nc by omega), (q.2 c4).1⟩, ⟨(q.2 c4).2.1, fun c3 => ⟨⟨Kx0_0, (show x0 < nc by omega)⟩, ⟨⟨Kx0_2, (show x0 + 2 < nc by omega), ((q.2 c4).2.2 c3).1⟩, ⟨fun c2 => ⟨⟨Kx0_0, (show x0 < nc by omega)⟩, ⟨⟨Kx0_3, (show x0 + 3 < nc by omega), (((q.2 c4).2.2 c3).2.1 c2).1⟩, ⟨fun c1 => ⟨⟨Kx0_0, (show x0 < nc by omega)⟩, ⟨⟨Kx0_4, (show x0 + 4 < nc by omega), ((((q.2 c4).2.2 c3).2.1 c2).2.1 c1).1⟩, ((((q.2 c4).2.2 c3).2.1 c2).2.1 c1).2⟩⟩, (((q.2 c4).2.2 c3).2.1 c2).2.2⟩⟩⟩, ((q.2 c4).2.2 c3).2.2⟩⟩⟩⟩⟩⟩⟩⟩
set_option maxRecDepth 100000 in
theorem go_X1_shortOf_92 {nc : Nat} {C : tf_C} {Q : tf_Q} {h : LH} (hn : 270 ≤ nc) {x0 : Nat} {x1 : Int32} {x2 : Int32} {x3 : Int32} (Kx0_0 : tf_K x0 = 0) (q : lx_X1_shortOf nc C Q 38 [.ref (x0), .int (x1), .int (x2), .int (x3 + 1)] [] h) : lx_X1_shortOf nc C Q 92 [.ref (x0), .int (x1), .int (x2), .int (x3)] [] h := by
  obtain ⟨Bx0, ⟨Kx0_1, Kx0_2, Kx0_3, Kx0_4, Kx0_5, Kx0_6, Kx0_7, Kx0_8, Kx0_9, Kx0_10, Kx0_11, Kx0_12, Kx0_13, Kx0_14⟩, ⟨Nx0_1, Nx0_2, Nx0_3, Nx0_4, Nx0_5, Nx0_6, Nx0_7, Nx0_8, Nx0_9, Nx0_10, Nx0_12, Nx0_13, Nx0_14⟩⟩ := tn_net Kx0_0
  refine tf_LW_go ?_
  exact q
set_option maxRecDepth 100000 in
theorem go_X1_shortOf_98 {nc : Nat} {C : tf_C} {Q : tf_Q} {h : LH} (hn : 270 ≤ nc) {x0 : Nat} {x1 : Int32} {x2 : Int32} {x3 : Int32} (Kx0_0 : tf_K x0 = 0) (q : Q (.int (x2)) h) : lx_X1_shortOf nc C Q 98 [.ref (x0), .int (x1), .int (x2), .int (x3)] [] h := by
  obtain ⟨Bx0, ⟨Kx0_1, Kx0_2, Kx0_3, Kx0_4, Kx0_5, Kx0_6, Kx0_7, Kx0_8, Kx0_9, Kx0_10, Kx0_11, Kx0_12, Kx0_13, Kx0_14⟩, ⟨Nx0_1, Nx0_2, Nx0_3, Nx0_4, Nx0_5, Nx0_6, Nx0_7, Nx0_8, Nx0_9, Nx0_10, Nx0_12, Nx0_13, Nx0_14⟩⟩ := tn_net Kx0_0
  refine tf_LW_go ?_
  exact ⟨(by first | trivial | rfl), q⟩
abbrev lx_X1_worstSet (nc : Nat) (C : tf_C) (Q : tf_Q) : tf_X := tf_LW nc C (tf_F 0) (tf_M 0) (tf_I 0) (tf_Eh 151) 1 tb_X1_worstSet Q
set_option maxRecDepth 100000 in
theorem go_X1_worstSet_0 {nc : Nat} {C : tf_C} {Q : tf_Q} {h : LH} (hn : 270 ≤ nc) {x0 : Nat} (Kx0_0 : tf_K x0 = 0) (q : lx_X1_worstSet nc C Q 6 [.ref (x0), .int (0), .int (0), .int (1), tf_z, tf_z] [] h) : lx_X1_worstSet nc C Q 0 [.ref (x0), tf_z, tf_z, tf_z, tf_z, tf_z] [] h := by
  obtain ⟨Bx0, ⟨Kx0_1, Kx0_2, Kx0_3, Kx0_4, Kx0_5, Kx0_6, Kx0_7, Kx0_8, Kx0_9, Kx0_10, Kx0_11, Kx0_12, Kx0_13, Kx0_14⟩, ⟨Nx0_1, Nx0_2, Nx0_3, Nx0_4, Nx0_5, Nx0_6, Nx0_7, Nx0_8, Nx0_9, Nx0_10, Nx0_12, Nx0_13, Nx0_14⟩⟩ := tn_net Kx0_0
  refine tf_LW_go ?_
  exact q
theorem en_X1_worstSet {nc d : Nat} {Q : tf_Q} {h : LH} (hn : 270 ≤ nc) {x0 : Nat} (Kx0_0 : tf_K x0 = 0) (q : lx_X1_worstSet nc (tf_Cd nc d) Q 0 [.ref (x0), tf_z, tf_z, tf_z, tf_z, tf_z] [] h) : tf_Cd nc (d + 1) 151 [.ref (x0)] h Q := by
  obtain ⟨Bx0, ⟨Kx0_1, Kx0_2, Kx0_3, Kx0_4, Kx0_5, Kx0_6, Kx0_7, Kx0_8, Kx0_9, Kx0_10, Kx0_11, Kx0_12, Kx0_13, Kx0_14⟩, ⟨Nx0_1, Nx0_2, Nx0_3, Nx0_4, Nx0_5, Nx0_6, Nx0_7, Nx0_8, Nx0_9, Nx0_10, Nx0_12, Nx0_13, Nx0_14⟩⟩ := tn_net Kx0_0
  exact ⟨⟨Nat.le_of_ble_eq_true rfl, Or.inr ⟨Kx0_0, (show x0 < nc by omega)⟩⟩, q⟩
set_option maxRecDepth 100000 in
theorem go_X1_worstSet_6 {nc : Nat} {C : tf_C} {Q : tf_Q} {h : LH} (hn : 270 ≤ nc) {x0 : Nat} {x1 : Int32} {x2 : Int32} {x3 : Int32} {x4 : Value} {x5 : Value} (Kx0_0 : tf_K x0 = 0) (q : ((1 <<< (h.1 x0 0 &&& 31)) ≤ x3 → lx_X1_worstSet nc C Q 69 [.ref (x0), .int (x1), .int (x2), .int (x3), x4, x5] [] h) ∧ (¬ (1 <<< (h.1 x0 0 &&& 31)) ≤ x3 → C 150 [.ref (x0), .int (x3)] h (fun r g => lx_X1_worstSet nc C Q 21 [.ref (x0), .int (x1), .int (x2), .int (x3), x4, x5] (r :: []) g))) : lx_X1_worstSet nc C Q 6 [.ref (x0), .int (x1), .int (x2), .int (x3), x4, x5] [] h := by
  obtain ⟨Bx0, ⟨Kx0_1, Kx0_2, Kx0_3, Kx0_4, Kx0_5, Kx0_6, Kx0_7, Kx0_8, Kx0_9, Kx0_10, Kx0_11, Kx0_12, Kx0_13, Kx0_14⟩, ⟨Nx0_1, Nx0_2, Nx0_3, Nx0_4, Nx0_5, Nx0_6, Nx0_7, Nx0_8, Nx0_9, Nx0_10, Nx0_12, Nx0_13, Nx0_14⟩⟩ := tn_net Kx0_0
  refine tf_LW_go ?_
  exact ⟨⟨Kx0_0, (show x0 < nc by omega)⟩, ⟨q.1, fun c1 => ⟨Nat.le_of_ble_eq_true rfl, Nat.le_of_ble_eq_true rfl, (q.2 c1)⟩⟩⟩
set_option maxRecDepth 100000 in
theorem go_X1_worstSet_21 {nc : Nat} {C : tf_C} {Q : tf_Q} {h : LH} (hn : 270 ≤ nc) {x0 : Nat} {x1 : Int32} {x2 : Int32} {x3 : Int32} {x4 : Value} {x5 : Value} {y0 : Int32} (Kx0_0 : tf_K x0 = 0) (q : C 243 [.int (x3)] h (fun r g => lx_X1_worstSet nc C Q 27 [.ref (x0), .int (x1), .int (x2), .int (x3), .int (y0), x5] (r :: []) g)) : lx_X1_worstSet nc C Q 21 [.ref (x0), .int (x1), .int (x2), .int (x3), x4, x5] [.int (y0)] h := by
  obtain ⟨Bx0, ⟨Kx0_1, Kx0_2, Kx0_3, Kx0_4, Kx0_5, Kx0_6, Kx0_7, Kx0_8, Kx0_9, Kx0_10, Kx0_11, Kx0_12, Kx0_13, Kx0_14⟩, ⟨Nx0_1, Nx0_2, Nx0_3, Nx0_4, Nx0_5, Nx0_6, Nx0_7, Nx0_8, Nx0_9, Nx0_10, Nx0_12, Nx0_13, Nx0_14⟩⟩ := tn_net Kx0_0
  refine tf_LW_go ?_
  exact ⟨Nat.le_of_ble_eq_true rfl, Nat.le_of_ble_eq_true rfl, q⟩
set_option maxRecDepth 100000 in
theorem go_X1_worstSet_27 {nc : Nat} {C : tf_C} {Q : tf_Q} {h : LH} (hn : 270 ≤ nc) {x0 : Nat} {x1 : Int32} {x2 : Int32} {x3 : Int32} {x4 : Int32} {x5 : Value} {y0 : Int32} (Kx0_0 : tf_K x0 = 0) (q : C 243 [.int (x1)] h (fun r g => lx_X1_worstSet nc C Q 31 [.ref (x0), .int (x1), .int (x2), .int (x3), .int (x4), x5] (r :: [.int (y0)]) g)) : lx_X1_worstSet nc C Q 27 [.ref (x0), .int (x1), .int (x2), .int (x3), .int (x4), x5] [.int (y0)] h := by
  obtain ⟨Bx0, ⟨Kx0_1, Kx0_2, Kx0_3, Kx0_4, Kx0_5, Kx0_6, Kx0_7, Kx0_8, Kx0_9, Kx0_10, Kx0_11, Kx0_12, Kx0_13, Kx0_14⟩, ⟨Nx0_1, Nx0_2, Nx0_3, Nx0_4, Nx0_5, Nx0_6, Nx0_7, Nx0_8, Nx0_9, Nx0_10, Nx0_12, Nx0_13, Nx0_14⟩⟩ := tn_net Kx0_0
  refine tf_LW_go ?_
  exact ⟨Nat.le_of_ble_eq_true rfl, Nat.le_of_ble_eq_true rfl, q⟩
set_option maxRecDepth 100000 in
theorem go_X1_worstSet_31 {nc : Nat} {C : tf_C} {Q : tf_Q} {h : LH} (hn : 270 ≤ nc) {x0 : Nat} {x1 : Int32} {x2 : Int32} {x3 : Int32} {x4 : Int32} {x5 : Value} {y0 : Int32} {y1 : Int32} (Kx0_0 : tf_K x0 = 0) (q : (y1 ≤ y0 → lx_X1_worstSet nc C Q 38 [.ref (x0), .int (x1), .int (x2), .int (x3), .int (x4), x5] [] h) ∧ (¬ y1 ≤ y0 → lx_X1_worstSet nc C Q 39 [.ref (x0), .int (x1), .int (x2), .int (x3), .int (x4), x5] [.int (1)] h)) : lx_X1_worstSet nc C Q 31 [.ref (x0), .int (x1), .int (x2), .int (x3), .int (x4), x5] [.int (y1), .int (y0)] h := by
  obtain ⟨Bx0, ⟨Kx0_1, Kx0_2, Kx0_3, Kx0_4, Kx0_5, Kx0_6, Kx0_7, Kx0_8, Kx0_9, Kx0_10, Kx0_11, Kx0_12, Kx0_13, Kx0_14⟩, ⟨Nx0_1, Nx0_2, Nx0_3, Nx0_4, Nx0_5, Nx0_6, Nx0_7, Nx0_8, Nx0_9, Nx0_10, Nx0_12, Nx0_13, Nx0_14⟩⟩ := tn_net Kx0_0
  refine tf_LW_go ?_
  exact ⟨q.1, fun c1 => (q.2 c1)⟩
set_option maxRecDepth 100000 in
theorem go_X1_worstSet_38 {nc : Nat} {C : tf_C} {Q : tf_Q} {h : LH} (hn : 270 ≤ nc) {x0 : Nat} {x1 : Int32} {x2 : Int32} {x3 : Int32} {x4 : Int32} {x5 : Value} (Kx0_0 : tf_K x0 = 0) (q : lx_X1_worstSet nc C Q 39 [.ref (x0), .int (x1), .int (x2), .int (x3), .int (x4), x5] [.int (0)] h) : lx_X1_worstSet nc C Q 38 [.ref (x0), .int (x1), .int (x2), .int (x3), .int (x4), x5] [] h := by
  obtain ⟨Bx0, ⟨Kx0_1, Kx0_2, Kx0_3, Kx0_4, Kx0_5, Kx0_6, Kx0_7, Kx0_8, Kx0_9, Kx0_10, Kx0_11, Kx0_12, Kx0_13, Kx0_14⟩, ⟨Nx0_1, Nx0_2, Nx0_3, Nx0_4, Nx0_5, Nx0_6, Nx0_7, Nx0_8, Nx0_9, Nx0_10, Nx0_12, Nx0_13, Nx0_14⟩⟩ := tn_net Kx0_0
  refine tf_LW_go ?_
  exact q
set_option maxRecDepth 100000 in
theorem go_X1_worstSet_39 {nc : Nat} {C : tf_C} {Q : tf_Q} {h : LH} (hn : 270 ≤ nc) {x0 : Nat} {x1 : Int32} {x2 : Int32} {x3 : Int32} {x4 : Int32} {x5 : Value} {y0 : Int32} (Kx0_0 : tf_K x0 = 0) (q : (x2 < x4 → lx_X1_worstSet nc C Q 58 [.ref (x0), .int (x1), .int (x2), .int (x3), .int (x4), .int (y0)] [] h) ∧ (¬ x2 < x4 → (x4 = x2 → (y0 = (0 : Int32) → lx_X1_worstSet nc C Q 63 [.ref (x0), .int (x1), .int (x2), .int (x3), .int (x4), .int (y0)] [] h) ∧ (¬ y0 = (0 : Int32) → lx_X1_worstSet nc C Q 58 [.ref (x0), .int (x1), .int (x2), .int (x3), .int (x4), .int (y0)] [] h)) ∧ (¬ x4 = x2 → lx_X1_worstSet nc C Q 63 [.ref (x0), .int (x1), .int (x2), .int (x3), .int (x4), .int (y0)] [] h))) : lx_X1_worstSet nc C Q 39 [.ref (x0), .int (x1), .int (x2), .int (x3), .int (x4), x5] [.int (y0)] h := by
  obtain ⟨Bx0, ⟨Kx0_1, Kx0_2, Kx0_3, Kx0_4, Kx0_5, Kx0_6, Kx0_7, Kx0_8, Kx0_9, Kx0_10, Kx0_11, Kx0_12, Kx0_13, Kx0_14⟩, ⟨Nx0_1, Nx0_2, Nx0_3, Nx0_4, Nx0_5, Nx0_6, Nx0_7, Nx0_8, Nx0_9, Nx0_10, Nx0_12, Nx0_13, Nx0_14⟩⟩ := tn_net Kx0_0
  refine tf_LW_go ?_
  exact ⟨q.1, fun c3 => ⟨fun c2 => ⟨((q.2 c3).1 c2).1, fun c1 => (((q.2 c3).1 c2).2 c1)⟩, (q.2 c3).2⟩⟩
set_option maxRecDepth 100000 in
theorem go_X1_worstSet_58 {nc : Nat} {C : tf_C} {Q : tf_Q} {h : LH} (hn : 270 ≤ nc) {x0 : Nat} {x1 : Int32} {x2 : Int32} {x3 : Int32} {x4 : Int32} {x5 : Int32} (Kx0_0 : tf_K x0 = 0) (q : lx_X1_worstSet nc C Q 63 [.ref (x0), .int (x3), .int (x4), .int (x3), .int (x4), .int (x5)] [] h) : lx_X1_worstSet nc C Q 58 [.ref (x0), .int (x1), .int (x2), .int (x3), .int (x4), .int (x5)] [] h := by
  obtain ⟨Bx0, ⟨Kx0_1, Kx0_2, Kx0_3, Kx0_4, Kx0_5, Kx0_6, Kx0_7, Kx0_8, Kx0_9, Kx0_10, Kx0_11, Kx0_12, Kx0_13, Kx0_14⟩, ⟨Nx0_1, Nx0_2, Nx0_3, Nx0_4, Nx0_5, Nx0_6, Nx0_7, Nx0_8, Nx0_9, Nx0_10, Nx0_12, Nx0_13, Nx0_14⟩⟩ := tn_net Kx0_0
  refine tf_LW_go ?_
  exact q
set_option maxRecDepth 100000 in
theorem go_X1_worstSet_63 {nc : Nat} {C : tf_C} {Q : tf_Q} {h : LH} (hn : 270 ≤ nc) {x0 : Nat} {x1 : Int32} {x2 : Int32} {x3 : Int32} {x4 : Int32} {x5 : Int32} (Kx0_0 : tf_K x0 = 0) (q : lx_X1_worstSet nc C Q 6 [.ref (x0), .int (x1), .int (x2), .int (x3 + 1), .int (x4), .int (x5)] [] h) : lx_X1_worstSet nc C Q 63 [.ref (x0), .int (x1), .int (x2), .int (x3), .int (x4), .int (x5)] [] h := by
  obtain ⟨Bx0, ⟨Kx0_1, Kx0_2, Kx0_3, Kx0_4, Kx0_5, Kx0_6, Kx0_7, Kx0_8, Kx0_9, Kx0_10, Kx0_11, Kx0_12, Kx0_13, Kx0_14⟩, ⟨Nx0_1, Nx0_2, Nx0_3, Nx0_4, Nx0_5, Nx0_6, Nx0_7, Nx0_8, Nx0_9, Nx0_10, Nx0_12, Nx0_13, Nx0_14⟩⟩ := tn_net Kx0_0
  refine tf_LW_go ?_
  exact q
set_option maxRecDepth 100000 in
theorem go_X1_worstSet_69 {nc : Nat} {C : tf_C} {Q : tf_Q} {h : LH} (hn : 270 ≤ nc) {x0 : Nat} {x1 : Int32} {x2 : Int32} {x3 : Int32} {x4 : Value} {x5 : Value} (Kx0_0 : tf_K x0 = 0) (q : Q (.int (x1)) h) : lx_X1_worstSet nc C Q 69 [.ref (x0), .int (x1), .int (x2), .int (x3), x4, x5] [] h := by
  obtain ⟨Bx0, ⟨Kx0_1, Kx0_2, Kx0_3, Kx0_4, Kx0_5, Kx0_6, Kx0_7, Kx0_8, Kx0_9, Kx0_10, Kx0_11, Kx0_12, Kx0_13, Kx0_14⟩, ⟨Nx0_1, Nx0_2, Nx0_3, Nx0_4, Nx0_5, Nx0_6, Nx0_7, Nx0_8, Nx0_9, Nx0_10, Nx0_12, Nx0_13, Nx0_14⟩⟩ := tn_net Kx0_0
  refine tf_LW_go ?_
  exact ⟨(by first | trivial | rfl), q⟩
abbrev lx_X1_lowestCost (nc : Nat) (C : tf_C) (Q : tf_Q) : tf_X := tf_LW nc C (tf_F 0) (tf_M 0) (tf_I 0) (tf_Eh 152) 1 tb_X1_lowestCost Q
set_option maxRecDepth 100000 in
theorem go_X1_lowestCost_0 {nc : Nat} {C : tf_C} {Q : tf_Q} {h : LH} (hn : 270 ≤ nc) {x0 : Nat} {x1 : Int32} (Kx0_0 : tf_K x0 = 0) (q : lx_X1_lowestCost nc C Q 5 [.ref (x0), .int (x1), .int ((-99)), .int (0), tf_z] [] h) : lx_X1_lowestCost nc C Q 0 [.ref (x0), .int (x1), tf_z, tf_z, tf_z] [] h := by
  obtain ⟨Bx0, ⟨Kx0_1, Kx0_2, Kx0_3, Kx0_4, Kx0_5, Kx0_6, Kx0_7, Kx0_8, Kx0_9, Kx0_10, Kx0_11, Kx0_12, Kx0_13, Kx0_14⟩, ⟨Nx0_1, Nx0_2, Nx0_3, Nx0_4, Nx0_5, Nx0_6, Nx0_7, Nx0_8, Nx0_9, Nx0_10, Nx0_12, Nx0_13, Nx0_14⟩⟩ := tn_net Kx0_0
  refine tf_LW_go ?_
  exact q
theorem en_X1_lowestCost {nc d : Nat} {Q : tf_Q} {h : LH} (hn : 270 ≤ nc) {x0 : Nat} {x1 : Int32} (Kx0_0 : tf_K x0 = 0) (q : lx_X1_lowestCost nc (tf_Cd nc d) Q 0 [.ref (x0), .int (x1), tf_z, tf_z, tf_z] [] h) : tf_Cd nc (d + 1) 152 [.ref (x0), .int (x1)] h Q := by
  obtain ⟨Bx0, ⟨Kx0_1, Kx0_2, Kx0_3, Kx0_4, Kx0_5, Kx0_6, Kx0_7, Kx0_8, Kx0_9, Kx0_10, Kx0_11, Kx0_12, Kx0_13, Kx0_14⟩, ⟨Nx0_1, Nx0_2, Nx0_3, Nx0_4, Nx0_5, Nx0_6, Nx0_7, Nx0_8, Nx0_9, Nx0_10, Nx0_12, Nx0_13, Nx0_14⟩⟩ := tn_net Kx0_0
  exact ⟨⟨Nat.le_of_ble_eq_true rfl, Or.inr ⟨Kx0_0, (show x0 < nc by omega)⟩⟩, q⟩
set_option maxRecDepth 100000 in
theorem go_X1_lowestCost_5 {nc : Nat} {C : tf_C} {Q : tf_Q} {h : LH} (hn : 270 ≤ nc) {x0 : Nat} {x1 : Int32} {x2 : Int32} {x3 : Int32} {x4 : Value} (Kx0_0 : tf_K x0 = 0) (q : ((h.1 x0 1) ≤ x3 → lx_X1_lowestCost nc C Q 91 [.ref (x0), .int (x1), .int (x2), .int (x3), x4] [] h) ∧ (¬ (h.1 x0 1) ≤ x3 → C 132 [.ref (x0), .int (x3)] h (fun r g => lx_X1_lowestCost nc C Q 18 [.ref (x0), .int (x1), .int (x2), .int (x3), x4] (r :: []) g))) : lx_X1_lowestCost nc C Q 5 [.ref (x0), .int (x1), .int (x2), .int (x3), x4] [] h := by
  obtain ⟨Bx0, ⟨Kx0_1, Kx0_2, Kx0_3, Kx0_4, Kx0_5, Kx0_6, Kx0_7, Kx0_8, Kx0_9, Kx0_10, Kx0_11, Kx0_12, Kx0_13, Kx0_14⟩, ⟨Nx0_1, Nx0_2, Nx0_3, Nx0_4, Nx0_5, Nx0_6, Nx0_7, Nx0_8, Nx0_9, Nx0_10, Nx0_12, Nx0_13, Nx0_14⟩⟩ := tn_net Kx0_0
  refine tf_LW_go ?_
  exact ⟨⟨Kx0_0, (show x0 < nc by omega)⟩, ⟨q.1, fun c1 => ⟨Nat.le_of_ble_eq_true rfl, Nat.le_of_ble_eq_true rfl, (q.2 c1)⟩⟩⟩
set_option maxRecDepth 100000 in
theorem go_X1_lowestCost_18 {nc : Nat} {C : tf_C} {Q : tf_Q} {h : LH} (hn : 270 ≤ nc) {x0 : Nat} {x1 : Int32} {x2 : Int32} {x3 : Int32} {x4 : Value} {y0 : Int32} (Kx0_0 : tf_K x0 = 0) (q : (y0 = (0 : Int32) → lx_X1_lowestCost nc C Q 30 [.ref (x0), .int (x1), .int (x2), .int (x3), x4] [] h) ∧ (¬ y0 = (0 : Int32) → C 154 [.ref (x0), .int (x1), .int (x3)] h (fun r g => lx_X1_lowestCost nc C Q 27 [.ref (x0), .int (x1), .int (x2), .int (x3), x4] (r :: []) g))) : lx_X1_lowestCost nc C Q 18 [.ref (x0), .int (x1), .int (x2), .int (x3), x4] [.int (y0)] h := by
  obtain ⟨Bx0, ⟨Kx0_1, Kx0_2, Kx0_3, Kx0_4, Kx0_5, Kx0_6, Kx0_7, Kx0_8, Kx0_9, Kx0_10, Kx0_11, Kx0_12, Kx0_13, Kx0_14⟩, ⟨Nx0_1, Nx0_2, Nx0_3, Nx0_4, Nx0_5, Nx0_6, Nx0_7, Nx0_8, Nx0_9, Nx0_10, Nx0_12, Nx0_13, Nx0_14⟩⟩ := tn_net Kx0_0
  refine tf_LW_go ?_
  exact ⟨q.1, fun c1 => ⟨Nat.le_of_ble_eq_true rfl, Nat.le_of_ble_eq_true rfl, (q.2 c1)⟩⟩
set_option maxRecDepth 100000 in
theorem go_X1_lowestCost_27 {nc : Nat} {C : tf_C} {Q : tf_Q} {h : LH} (hn : 270 ≤ nc) {x0 : Nat} {x1 : Int32} {x2 : Int32} {x3 : Int32} {x4 : Value} {y0 : Int32} (Kx0_0 : tf_K x0 = 0) (q : lx_X1_lowestCost nc C Q 31 [.ref (x0), .int (x1), .int (x2), .int (x3), x4] [.int (y0)] h) : lx_X1_lowestCost nc C Q 27 [.ref (x0), .int (x1), .int (x2), .int (x3), x4] [.int (y0)] h := by
  obtain ⟨Bx0, ⟨Kx0_1, Kx0_2, Kx0_3, Kx0_4, Kx0_5, Kx0_6, Kx0_7, Kx0_8, Kx0_9, Kx0_10, Kx0_11, Kx0_12, Kx0_13, Kx0_14⟩, ⟨Nx0_1, Nx0_2, Nx0_3, Nx0_4, Nx0_5, Nx0_6, Nx0_7, Nx0_8, Nx0_9, Nx0_10, Nx0_12, Nx0_13, Nx0_14⟩⟩ := tn_net Kx0_0
  refine tf_LW_go ?_
  exact q
set_option maxRecDepth 100000 in
theorem go_X1_lowestCost_30 {nc : Nat} {C : tf_C} {Q : tf_Q} {h : LH} (hn : 270 ≤ nc) {x0 : Nat} {x1 : Int32} {x2 : Int32} {x3 : Int32} {x4 : Value} (Kx0_0 : tf_K x0 = 0) (q : lx_X1_lowestCost nc C Q 31 [.ref (x0), .int (x1), .int (x2), .int (x3), x4] [.int (0)] h) : lx_X1_lowestCost nc C Q 30 [.ref (x0), .int (x1), .int (x2), .int (x3), x4] [] h := by
  obtain ⟨Bx0, ⟨Kx0_1, Kx0_2, Kx0_3, Kx0_4, Kx0_5, Kx0_6, Kx0_7, Kx0_8, Kx0_9, Kx0_10, Kx0_11, Kx0_12, Kx0_13, Kx0_14⟩, ⟨Nx0_1, Nx0_2, Nx0_3, Nx0_4, Nx0_5, Nx0_6, Nx0_7, Nx0_8, Nx0_9, Nx0_10, Nx0_12, Nx0_13, Nx0_14⟩⟩ := tn_net Kx0_0
  refine tf_LW_go ?_
  exact q
set_option maxRecDepth 100000 in
theorem go_X1_lowestCost_31 {nc : Nat} {C : tf_C} {Q : tf_Q} {h : LH} (hn : 270 ≤ nc) {x0 : Nat} {x1 : Int32} {x2 : Int32} {x3 : Int32} {x4 : Value} {y0 : Int32} (Kx0_0 : tf_K x0 = 0) (q : (y0 = (0 : Int32) → lx_X1_lowestCost nc C Q 85 [.ref (x0), .int (x1), .int (x2), .int (x3), .int (y0)] [] h) ∧ (¬ y0 = (0 : Int32) → (vp_in x3 21) ∧ ((h.1 (x0 + 7) (x3 : Int32).toNatClampNeg) = (0 : Int32) → lx_X1_lowestCost nc C Q 52 [.ref (x0), .int (x1), .int (x2), .int (x3), .int (y0)] [.int (1)] h) ∧ (¬ (h.1 (x0 + 7) (x3 : Int32).toNatClampNeg) = (0 : Int32) → lx_X1_lowestCost nc C Q 51 [.ref (x0), .int (x1), .int (x2), .int (x3), .int (y0)] [] h))) : lx_X1_lowestCost nc C Q 31 [.ref (x0), .int (x1), .int (x2), .int (x3), x4] [.int (y0)] h := by
  obtain ⟨Bx0, ⟨Kx0_1, Kx0_2, Kx0_3, Kx0_4, Kx0_5, Kx0_6, Kx0_7, Kx0_8, Kx0_9, Kx0_10, Kx0_11, Kx0_12, Kx0_13, Kx0_14⟩, ⟨Nx0_1, Nx0_2, Nx0_3, Nx0_4, Nx0_5, Nx0_6, Nx0_7, Nx0_8, Nx0_9, Nx0_10, Nx0_12, Nx0_13, Nx0_14⟩⟩ := tn_net Kx0_0
  refine tf_LW_go ?_
  show (y0 = (0 : Int32) → lx_X1_lowestCost nc C Q 85 [.ref (x0), .int (x1), .int (x2), .int (x3), .int (y0)] [] h) ∧ (¬ y0 = (0 : Int32) → (tf_K x0 = 0 ∧ x0 < nc) ∧ (tf_K (tf_R x0 9) = 8 ∧ (tf_R x0 9) < nc ∧ vp_in x3 (tf_N (tf_R x0 9))) ∧ ((h.1 (tf_R x0 9) (x3 : Int32).toNatClampNeg) = (0 : Int32) → lx_X1_lowestCost nc C Q 52 [.ref (x0), .int (x1), .int (x2), .int (x3), .int (y0)] [.int (1)] h) ∧ (¬ (h.1 (tf_R x0 9) (x3 : Int32).toNatClampNeg) = (0 : Int32) → lx_X1_lowestCost nc C Q 51 [.ref (x0), .int (x1), .int (x2), .int (x3), .int (y0)] [] h))
  try simp only [(show tf_R x0 9 = x0 + 7 by rw [tn_R0 Kx0_0]; try omega), Nx0_7]
  exact ⟨q.1, fun c2 => ⟨⟨Kx0_0, (show x0 < nc by omega)⟩, ⟨⟨Kx0_7, (show x0 + 7 < nc by omega), (q.2 c2).1⟩, ⟨fun c1 => ((q.2 c2).2.1 c1), (q.2 c2).2.2⟩⟩⟩⟩
set_option maxRecDepth 100000 in
theorem go_X1_lowestCost_51 {nc : Nat} {C : tf_C} {Q : tf_Q} {h : LH} (hn : 270 ≤ nc) {x0 : Nat} {x1 : Int32} {x2 : Int32} {x3 : Int32} {x4 : Int32} (Kx0_0 : tf_K x0 = 0) (q : lx_X1_lowestCost nc C Q 52 [.ref (x0), .int (x1), .int (x2), .int (x3), .int (x4)] [.int (0)] h) : lx_X1_lowestCost nc C Q 51 [.ref (x0), .int (x1), .int (x2), .int (x3), .int (x4)] [] h := by
  obtain ⟨Bx0, ⟨Kx0_1, Kx0_2, Kx0_3, Kx0_4, Kx0_5, Kx0_6, Kx0_7, Kx0_8, Kx0_9, Kx0_10, Kx0_11, Kx0_12, Kx0_13, Kx0_14⟩, ⟨Nx0_1, Nx0_2, Nx0_3, Nx0_4, Nx0_5, Nx0_6, Nx0_7, Nx0_8, Nx0_9, Nx0_10, Nx0_12, Nx0_13, Nx0_14⟩⟩ := tn_net Kx0_0
  refine tf_LW_go ?_
  exact q
set_option maxRecDepth 100000 in
theorem go_X1_lowestCost_52 {nc : Nat} {C : tf_C} {Q : tf_Q} {h : LH} (hn : 270 ≤ nc) {x0 : Nat} {x1 : Int32} {x2 : Int32} {x3 : Int32} {x4 : Int32} {y0 : Int32} (Kx0_0 : tf_K x0 = 0) (q : (x4 ≤ (0 : Int32) → lx_X1_lowestCost nc C Q 61 [.ref (x0), .int (x1), .int (x2), .int (x3), .int (x4)] [.int (y0)] h) ∧ (¬ x4 ≤ (0 : Int32) → lx_X1_lowestCost nc C Q 62 [.ref (x0), .int (x1), .int (x2), .int (x3), .int (x4)] [.int (1), .int (y0)] h)) : lx_X1_lowestCost nc C Q 52 [.ref (x0), .int (x1), .int (x2), .int (x3), .int (x4)] [.int (y0)] h := by
  obtain ⟨Bx0, ⟨Kx0_1, Kx0_2, Kx0_3, Kx0_4, Kx0_5, Kx0_6, Kx0_7, Kx0_8, Kx0_9, Kx0_10, Kx0_11, Kx0_12, Kx0_13, Kx0_14⟩, ⟨Nx0_1, Nx0_2, Nx0_3, Nx0_4, Nx0_5, Nx0_6, Nx0_7, Nx0_8, Nx0_9, Nx0_10, Nx0_12, Nx0_13, Nx0_14⟩⟩ := tn_net Kx0_0
  refine tf_LW_go ?_
  exact ⟨q.1, fun c1 => (q.2 c1)⟩
set_option maxRecDepth 100000 in
theorem go_X1_lowestCost_61 {nc : Nat} {C : tf_C} {Q : tf_Q} {h : LH} (hn : 270 ≤ nc) {x0 : Nat} {x1 : Int32} {x2 : Int32} {x3 : Int32} {x4 : Int32} {y0 : Int32} (Kx0_0 : tf_K x0 = 0) (q : lx_X1_lowestCost nc C Q 62 [.ref (x0), .int (x1), .int (x2), .int (x3), .int (x4)] [.int (0), .int (y0)] h) : lx_X1_lowestCost nc C Q 61 [.ref (x0), .int (x1), .int (x2), .int (x3), .int (x4)] [.int (y0)] h := by
  obtain ⟨Bx0, ⟨Kx0_1, Kx0_2, Kx0_3, Kx0_4, Kx0_5, Kx0_6, Kx0_7, Kx0_8, Kx0_9, Kx0_10, Kx0_11, Kx0_12, Kx0_13, Kx0_14⟩, ⟨Nx0_1, Nx0_2, Nx0_3, Nx0_4, Nx0_5, Nx0_6, Nx0_7, Nx0_8, Nx0_9, Nx0_10, Nx0_12, Nx0_13, Nx0_14⟩⟩ := tn_net Kx0_0
  refine tf_LW_go ?_
  exact q
set_option maxRecDepth 100000 in
theorem go_X1_lowestCost_62 {nc : Nat} {C : tf_C} {Q : tf_Q} {h : LH} (hn : 270 ≤ nc) {x0 : Nat} {x1 : Int32} {x2 : Int32} {x3 : Int32} {x4 : Int32} {y0 : Int32} {y1 : Int32} (Kx0_0 : tf_K x0 = 0) (q : (y0 = y1 → (vp_in x1 21) ∧ C 131 [.ref (x0), .int (x3)] h (fun r g => lx_X1_lowestCost nc C Q 77 [.ref (x0), .int (x1), .int (x2), .int (x3), .int (x4)] (r :: [.int (h.1 (x0 + 5) (x1 : Int32).toNatClampNeg), .int (x2)]) g)) ∧ (¬ y0 = y1 → lx_X1_lowestCost nc C Q 85 [.ref (x0), .int (x1), .int (x2), .int (x3), .int (x4)] [] h)) : lx_X1_lowestCost nc C Q 62 [.ref (x0), .int (x1), .int (x2), .int (x3), .int (x4)] [.int (y1), .int (y0)] h := by
  obtain ⟨Bx0, ⟨Kx0_1, Kx0_2, Kx0_3, Kx0_4, Kx0_5, Kx0_6, Kx0_7, Kx0_8, Kx0_9, Kx0_10, Kx0_11, Kx0_12, Kx0_13, Kx0_14⟩, ⟨Nx0_1, Nx0_2, Nx0_3, Nx0_4, Nx0_5, Nx0_6, Nx0_7, Nx0_8, Nx0_9, Nx0_10, Nx0_12, Nx0_13, Nx0_14⟩⟩ := tn_net Kx0_0
  refine tf_LW_go ?_
  show (y0 = y1 → (tf_K x0 = 0 ∧ x0 < nc) ∧ (tf_K (tf_R x0 7) = 8 ∧ (tf_R x0 7) < nc ∧ vp_in x1 (tf_N (tf_R x0 7))) ∧ 2 ≤ 4 ∧ 2 ≤ 8 ∧ C 131 [.ref (x0), .int (x3)] h (fun r g => lx_X1_lowestCost nc C Q 77 [.ref (x0), .int (x1), .int (x2), .int (x3), .int (x4)] (r :: [.int (h.1 (tf_R x0 7) (x1 : Int32).toNatClampNeg), .int (x2)]) g)) ∧ (¬ y0 = y1 → lx_X1_lowestCost nc C Q 85 [.ref (x0), .int (x1), .int (x2), .int (x3), .int (x4)] [] h)
  try simp only [(show tf_R x0 7 = x0 + 5 by rw [tn_R0 Kx0_0]; try omega), Nx0_5]
  exact ⟨fun c1 => ⟨⟨Kx0_0, (show x0 < nc by omega)⟩, ⟨⟨Kx0_5, (show x0 + 5 < nc by omega), (q.1 c1).1⟩, ⟨Nat.le_of_ble_eq_true rfl, Nat.le_of_ble_eq_true rfl, (q.1 c1).2⟩⟩⟩, q.2⟩
set_option maxRecDepth 100000 in
theorem go_X1_lowestCost_77 {nc : Nat} {C : tf_C} {Q : tf_Q} {h : LH} (hn : 270 ≤ nc) {x0 : Nat} {x1 : Int32} {x2 : Int32} {x3 : Int32} {x4 : Int32} {y0 : Int32} {y1 : Int32} {y2 : Int32} (Kx0_0 : tf_K x0 = 0) (q : C 1001 [.int (y0), .int (y1 - (y2 * x4))] h (fun r g => lx_X1_lowestCost nc C Q 84 [.ref (x0), .int (x1), .int (x2), .int (x3), .int (x4)] (r :: []) g)) : lx_X1_lowestCost nc C Q 77 [.ref (x0), .int (x1), .int (x2), .int (x3), .int (x4)] [.int (y2), .int (y1), .int (y0)] h := by
  obtain ⟨Bx0, ⟨Kx0_1, Kx0_2, Kx0_3, Kx0_4, Kx0_5, Kx0_6, Kx0_7, Kx0_8, Kx0_9, Kx0_10, Kx0_11, Kx0_12, Kx0_13, Kx0_14⟩, ⟨Nx0_1, Nx0_2, Nx0_3, Nx0_4, Nx0_5, Nx0_6, Nx0_7, Nx0_8, Nx0_9, Nx0_10, Nx0_12, Nx0_13, Nx0_14⟩⟩ := tn_net Kx0_0
  refine tf_LW_go ?_
  exact ⟨Nat.le_of_ble_eq_true rfl, Nat.le_of_ble_eq_true rfl, q⟩
set_option maxRecDepth 100000 in
theorem go_X1_lowestCost_84 {nc : Nat} {C : tf_C} {Q : tf_Q} {h : LH} (hn : 270 ≤ nc) {x0 : Nat} {x1 : Int32} {x2 : Int32} {x3 : Int32} {x4 : Int32} {y0 : Int32} (Kx0_0 : tf_K x0 = 0) (q : lx_X1_lowestCost nc C Q 85 [.ref (x0), .int (x1), .int (y0), .int (x3), .int (x4)] [] h) : lx_X1_lowestCost nc C Q 84 [.ref (x0), .int (x1), .int (x2), .int (x3), .int (x4)] [.int (y0)] h := by
  obtain ⟨Bx0, ⟨Kx0_1, Kx0_2, Kx0_3, Kx0_4, Kx0_5, Kx0_6, Kx0_7, Kx0_8, Kx0_9, Kx0_10, Kx0_11, Kx0_12, Kx0_13, Kx0_14⟩, ⟨Nx0_1, Nx0_2, Nx0_3, Nx0_4, Nx0_5, Nx0_6, Nx0_7, Nx0_8, Nx0_9, Nx0_10, Nx0_12, Nx0_13, Nx0_14⟩⟩ := tn_net Kx0_0
  refine tf_LW_go ?_
  exact q
set_option maxRecDepth 100000 in
theorem go_X1_lowestCost_85 {nc : Nat} {C : tf_C} {Q : tf_Q} {h : LH} (hn : 270 ≤ nc) {x0 : Nat} {x1 : Int32} {x2 : Int32} {x3 : Int32} {x4 : Int32} (Kx0_0 : tf_K x0 = 0) (q : lx_X1_lowestCost nc C Q 5 [.ref (x0), .int (x1), .int (x2), .int (x3 + 1), .int (x4)] [] h) : lx_X1_lowestCost nc C Q 85 [.ref (x0), .int (x1), .int (x2), .int (x3), .int (x4)] [] h := by
  obtain ⟨Bx0, ⟨Kx0_1, Kx0_2, Kx0_3, Kx0_4, Kx0_5, Kx0_6, Kx0_7, Kx0_8, Kx0_9, Kx0_10, Kx0_11, Kx0_12, Kx0_13, Kx0_14⟩, ⟨Nx0_1, Nx0_2, Nx0_3, Nx0_4, Nx0_5, Nx0_6, Nx0_7, Nx0_8, Nx0_9, Nx0_10, Nx0_12, Nx0_13, Nx0_14⟩⟩ := tn_net Kx0_0
  refine tf_LW_go ?_
  exact q
set_option maxRecDepth 100000 in
theorem go_X1_lowestCost_91 {nc : Nat} {C : tf_C} {Q : tf_Q} {h : LH} (hn : 270 ≤ nc) {x0 : Nat} {x1 : Int32} {x2 : Int32} {x3 : Int32} {x4 : Value} (Kx0_0 : tf_K x0 = 0) (q : Q (.int (x2)) h) : lx_X1_lowestCost nc C Q 91 [.ref (x0), .int (x1), .int (x2), .int (x3), x4] [] h := by
  obtain ⟨Bx0, ⟨Kx0_1, Kx0_2, Kx0_3, Kx0_4, Kx0_5, Kx0_6, Kx0_7, Kx0_8, Kx0_9, Kx0_10, Kx0_11, Kx0_12, Kx0_13, Kx0_14⟩, ⟨Nx0_1, Nx0_2, Nx0_3, Nx0_4, Nx0_5, Nx0_6, Nx0_7, Nx0_8, Nx0_9, Nx0_10, Nx0_12, Nx0_13, Nx0_14⟩⟩ := tn_net Kx0_0
  refine tf_LW_go ?_
  exact ⟨(by first | trivial | rfl), q⟩
abbrev lx_X1_highestCost (nc : Nat) (C : tf_C) (Q : tf_Q) : tf_X := tf_LW nc C (tf_F 0) (tf_M 0) (tf_I 0) (tf_Eh 153) 1 tb_X1_highestCost Q
set_option maxRecDepth 100000 in
theorem go_X1_highestCost_0 {nc : Nat} {C : tf_C} {Q : tf_Q} {h : LH} (hn : 270 ≤ nc) {x0 : Nat} {x1 : Int32} (Kx0_0 : tf_K x0 = 0) (q : lx_X1_highestCost nc C Q 5 [.ref (x0), .int (x1), .int (99), .int (0), tf_z] [] h) : lx_X1_highestCost nc C Q 0 [.ref (x0), .int (x1), tf_z, tf_z, tf_z] [] h := by
  obtain ⟨Bx0, ⟨Kx0_1, Kx0_2, Kx0_3, Kx0_4, Kx0_5, Kx0_6, Kx0_7, Kx0_8, Kx0_9, Kx0_10, Kx0_11, Kx0_12, Kx0_13, Kx0_14⟩, ⟨Nx0_1, Nx0_2, Nx0_3, Nx0_4, Nx0_5, Nx0_6, Nx0_7, Nx0_8, Nx0_9, Nx0_10, Nx0_12, Nx0_13, Nx0_14⟩⟩ := tn_net Kx0_0
  refine tf_LW_go ?_
  exact q
theorem en_X1_highestCost {nc d : Nat} {Q : tf_Q} {h : LH} (hn : 270 ≤ nc) {x0 : Nat} {x1 : Int32} (Kx0_0 : tf_K x0 = 0) (q : lx_X1_highestCost nc (tf_Cd nc d) Q 0 [.ref (x0), .int (x1), tf_z, tf_z, tf_z] [] h) : tf_Cd nc (d + 1) 153 [.ref (x0), .int (x1)] h Q := by
  obtain ⟨Bx0, ⟨Kx0_1, Kx0_2, Kx0_3, Kx0_4, Kx0_5, Kx0_6, Kx0_7, Kx0_8, Kx0_9, Kx0_10, Kx0_11, Kx0_12, Kx0_13, Kx0_14⟩, ⟨Nx0_1, Nx0_2, Nx0_3, Nx0_4, Nx0_5, Nx0_6, Nx0_7, Nx0_8, Nx0_9, Nx0_10, Nx0_12, Nx0_13, Nx0_14⟩⟩ := tn_net Kx0_0
  exact ⟨⟨Nat.le_of_ble_eq_true rfl, Or.inr ⟨Kx0_0, (show x0 < nc by omega)⟩⟩, q⟩
set_option maxRecDepth 100000 in
theorem go_X1_highestCost_5 {nc : Nat} {C : tf_C} {Q : tf_Q} {h : LH} (hn : 270 ≤ nc) {x0 : Nat} {x1 : Int32} {x2 : Int32} {x3 : Int32} {x4 : Value} (Kx0_0 : tf_K x0 = 0) (q : ((h.1 x0 1) ≤ x3 → lx_X1_highestCost nc C Q 91 [.ref (x0), .int (x1), .int (x2), .int (x3), x4] [] h) ∧ (¬ (h.1 x0 1) ≤ x3 → C 132 [.ref (x0), .int (x3)] h (fun r g => lx_X1_highestCost nc C Q 18 [.ref (x0), .int (x1), .int (x2), .int (x3), x4] (r :: []) g))) : lx_X1_highestCost nc C Q 5 [.ref (x0), .int (x1), .int (x2), .int (x3), x4] [] h := by
  obtain ⟨Bx0, ⟨Kx0_1, Kx0_2, Kx0_3, Kx0_4, Kx0_5, Kx0_6, Kx0_7, Kx0_8, Kx0_9, Kx0_10, Kx0_11, Kx0_12, Kx0_13, Kx0_14⟩, ⟨Nx0_1, Nx0_2, Nx0_3, Nx0_4, Nx0_5, Nx0_6, Nx0_7, Nx0_8, Nx0_9, Nx0_10, Nx0_12, Nx0_13, Nx0_14⟩⟩ := tn_net Kx0_0
  refine tf_LW_go ?_
  exact ⟨⟨Kx0_0, (show x0 < nc by omega)⟩, ⟨q.1, fun c1 => ⟨Nat.le_of_ble_eq_true rfl, Nat.le_of_ble_eq_true rfl, (q.2 c1)⟩⟩⟩
set_option maxRecDepth 100000 in
theorem go_X1_highestCost_18 {nc : Nat} {C : tf_C} {Q : tf_Q} {h : LH} (hn : 270 ≤ nc) {x0 : Nat} {x1 : Int32} {x2 : Int32} {x3 : Int32} {x4 : Value} {y0 : Int32} (Kx0_0 : tf_K x0 = 0) (q : (y0 = (0 : Int32) → lx_X1_highestCost nc C Q 30 [.ref (x0), .int (x1), .int (x2), .int (x3), x4] [] h) ∧ (¬ y0 = (0 : Int32) → C 154 [.ref (x0), .int (x1), .int (x3)] h (fun r g => lx_X1_highestCost nc C Q 27 [.ref (x0), .int (x1), .int (x2), .int (x3), x4] (r :: []) g))) : lx_X1_highestCost nc C Q 18 [.ref (x0), .int (x1), .int (x2), .int (x3), x4] [.int (y0)] h := by
  obtain ⟨Bx0, ⟨Kx0_1, Kx0_2, Kx0_3, Kx0_4, Kx0_5, Kx0_6, Kx0_7, Kx0_8, Kx0_9, Kx0_10, Kx0_11, Kx0_12, Kx0_13, Kx0_14⟩, ⟨Nx0_1, Nx0_2, Nx0_3, Nx0_4, Nx0_5, Nx0_6, Nx0_7, Nx0_8, Nx0_9, Nx0_10, Nx0_12, Nx0_13, Nx0_14⟩⟩ := tn_net Kx0_0
  refine tf_LW_go ?_
  exact ⟨q.1, fun c1 => ⟨Nat.le_of_ble_eq_true rfl, Nat.le_of_ble_eq_true rfl, (q.2 c1)⟩⟩
set_option maxRecDepth 100000 in
theorem go_X1_highestCost_27 {nc : Nat} {C : tf_C} {Q : tf_Q} {h : LH} (hn : 270 ≤ nc) {x0 : Nat} {x1 : Int32} {x2 : Int32} {x3 : Int32} {x4 : Value} {y0 : Int32} (Kx0_0 : tf_K x0 = 0) (q : lx_X1_highestCost nc C Q 31 [.ref (x0), .int (x1), .int (x2), .int (x3), x4] [.int (y0)] h) : lx_X1_highestCost nc C Q 27 [.ref (x0), .int (x1), .int (x2), .int (x3), x4] [.int (y0)] h := by
  obtain ⟨Bx0, ⟨Kx0_1, Kx0_2, Kx0_3, Kx0_4, Kx0_5, Kx0_6, Kx0_7, Kx0_8, Kx0_9, Kx0_10, Kx0_11, Kx0_12, Kx0_13, Kx0_14⟩, ⟨Nx0_1, Nx0_2, Nx0_3, Nx0_4, Nx0_5, Nx0_6, Nx0_7, Nx0_8, Nx0_9, Nx0_10, Nx0_12, Nx0_13, Nx0_14⟩⟩ := tn_net Kx0_0
  refine tf_LW_go ?_
  exact q
set_option maxRecDepth 100000 in
theorem go_X1_highestCost_30 {nc : Nat} {C : tf_C} {Q : tf_Q} {h : LH} (hn : 270 ≤ nc) {x0 : Nat} {x1 : Int32} {x2 : Int32} {x3 : Int32} {x4 : Value} (Kx0_0 : tf_K x0 = 0) (q : lx_X1_highestCost nc C Q 31 [.ref (x0), .int (x1), .int (x2), .int (x3), x4] [.int (0)] h) : lx_X1_highestCost nc C Q 30 [.ref (x0), .int (x1), .int (x2), .int (x3), x4] [] h := by
  obtain ⟨Bx0, ⟨Kx0_1, Kx0_2, Kx0_3, Kx0_4, Kx0_5, Kx0_6, Kx0_7, Kx0_8, Kx0_9, Kx0_10, Kx0_11, Kx0_12, Kx0_13, Kx0_14⟩, ⟨Nx0_1, Nx0_2, Nx0_3, Nx0_4, Nx0_5, Nx0_6, Nx0_7, Nx0_8, Nx0_9, Nx0_10, Nx0_12, Nx0_13, Nx0_14⟩⟩ := tn_net Kx0_0
  refine tf_LW_go ?_
  exact q
set_option maxRecDepth 100000 in
theorem go_X1_highestCost_31 {nc : Nat} {C : tf_C} {Q : tf_Q} {h : LH} (hn : 270 ≤ nc) {x0 : Nat} {x1 : Int32} {x2 : Int32} {x3 : Int32} {x4 : Value} {y0 : Int32} (Kx0_0 : tf_K x0 = 0) (q : (y0 = (0 : Int32) → lx_X1_highestCost nc C Q 85 [.ref (x0), .int (x1), .int (x2), .int (x3), .int (y0)] [] h) ∧ (¬ y0 = (0 : Int32) → (vp_in x3 21) ∧ ((h.1 (x0 + 7) (x3 : Int32).toNatClampNeg) = (0 : Int32) → lx_X1_highestCost nc C Q 52 [.ref (x0), .int (x1), .int (x2), .int (x3), .int (y0)] [.int (1)] h) ∧ (¬ (h.1 (x0 + 7) (x3 : Int32).toNatClampNeg) = (0 : Int32) → lx_X1_highestCost nc C Q 51 [.ref (x0), .int (x1), .int (x2), .int (x3), .int (y0)] [] h))) : lx_X1_highestCost nc C Q 31 [.ref (x0), .int (x1), .int (x2), .int (x3), x4] [.int (y0)] h := by
  obtain ⟨Bx0, ⟨Kx0_1, Kx0_2, Kx0_3, Kx0_4, Kx0_5, Kx0_6, Kx0_7, Kx0_8, Kx0_9, Kx0_10, Kx0_11, Kx0_12, Kx0_13, Kx0_14⟩, ⟨Nx0_1, Nx0_2, Nx0_3, Nx0_4, Nx0_5, Nx0_6, Nx0_7, Nx0_8, Nx0_9, Nx0_10, Nx0_12, Nx0_13, Nx0_14⟩⟩ := tn_net Kx0_0
  refine tf_LW_go ?_
  show (y0 = (0 : Int32) → lx_X1_highestCost nc C Q 85 [.ref (x0), .int (x1), .int (x2), .int (x3), .int (y0)] [] h) ∧ (¬ y0 = (0 : Int32) → (tf_K x0 = 0 ∧ x0 < nc) ∧ (tf_K (tf_R x0 9) = 8 ∧ (tf_R x0 9) < nc ∧ vp_in x3 (tf_N (tf_R x0 9))) ∧ ((h.1 (tf_R x0 9) (x3 : Int32).toNatClampNeg) = (0 : Int32) → lx_X1_highestCost nc C Q 52 [.ref (x0), .int (x1), .int (x2), .int (x3), .int (y0)] [.int (1)] h) ∧ (¬ (h.1 (tf_R x0 9) (x3 : Int32).toNatClampNeg) = (0 : Int32) → lx_X1_highestCost nc C Q 51 [.ref (x0), .int (x1), .int (x2), .int (x3), .int (y0)] [] h))
  try simp only [(show tf_R x0 9 = x0 + 7 by rw [tn_R0 Kx0_0]; try omega), Nx0_7]
  exact ⟨q.1, fun c2 => ⟨⟨Kx0_0, (show x0 < nc by omega)⟩, ⟨⟨Kx0_7, (show x0 + 7 < nc by omega), (q.2 c2).1⟩, ⟨fun c1 => ((q.2 c2).2.1 c1), (q.2 c2).2.2⟩⟩⟩⟩
set_option maxRecDepth 100000 in
theorem go_X1_highestCost_51 {nc : Nat} {C : tf_C} {Q : tf_Q} {h : LH} (hn : 270 ≤ nc) {x0 : Nat} {x1 : Int32} {x2 : Int32} {x3 : Int32} {x4 : Int32} (Kx0_0 : tf_K x0 = 0) (q : lx_X1_highestCost nc C Q 52 [.ref (x0), .int (x1), .int (x2), .int (x3), .int (x4)] [.int (0)] h) : lx_X1_highestCost nc C Q 51 [.ref (x0), .int (x1), .int (x2), .int (x3), .int (x4)] [] h := by
  obtain ⟨Bx0, ⟨Kx0_1, Kx0_2, Kx0_3, Kx0_4, Kx0_5, Kx0_6, Kx0_7, Kx0_8, Kx0_9, Kx0_10, Kx0_11, Kx0_12, Kx0_13, Kx0_14⟩, ⟨Nx0_1, Nx0_2, Nx0_3, Nx0_4, Nx0_5, Nx0_6, Nx0_7, Nx0_8, Nx0_9, Nx0_10, Nx0_12, Nx0_13, Nx0_14⟩⟩ := tn_net Kx0_0
  refine tf_LW_go ?_
  exact q
set_option maxRecDepth 100000 in
theorem go_X1_highestCost_52 {nc : Nat} {C : tf_C} {Q : tf_Q} {h : LH} (hn : 270 ≤ nc) {x0 : Nat} {x1 : Int32} {x2 : Int32} {x3 : Int32} {x4 : Int32} {y0 : Int32} (Kx0_0 : tf_K x0 = 0) (q : (x4 ≤ (0 : Int32) → lx_X1_highestCost nc C Q 61 [.ref (x0), .int (x1), .int (x2), .int (x3), .int (x4)] [.int (y0)] h) ∧ (¬ x4 ≤ (0 : Int32) → lx_X1_highestCost nc C Q 62 [.ref (x0), .int (x1), .int (x2), .int (x3), .int (x4)] [.int (1), .int (y0)] h)) : lx_X1_highestCost nc C Q 52 [.ref (x0), .int (x1), .int (x2), .int (x3), .int (x4)] [.int (y0)] h := by
  obtain ⟨Bx0, ⟨Kx0_1, Kx0_2, Kx0_3, Kx0_4, Kx0_5, Kx0_6, Kx0_7, Kx0_8, Kx0_9, Kx0_10, Kx0_11, Kx0_12, Kx0_13, Kx0_14⟩, ⟨Nx0_1, Nx0_2, Nx0_3, Nx0_4, Nx0_5, Nx0_6, Nx0_7, Nx0_8, Nx0_9, Nx0_10, Nx0_12, Nx0_13, Nx0_14⟩⟩ := tn_net Kx0_0
  refine tf_LW_go ?_
  exact ⟨q.1, fun c1 => (q.2 c1)⟩
set_option maxRecDepth 100000 in
theorem go_X1_highestCost_61 {nc : Nat} {C : tf_C} {Q : tf_Q} {h : LH} (hn : 270 ≤ nc) {x0 : Nat} {x1 : Int32} {x2 : Int32} {x3 : Int32} {x4 : Int32} {y0 : Int32} (Kx0_0 : tf_K x0 = 0) (q : lx_X1_highestCost nc C Q 62 [.ref (x0), .int (x1), .int (x2), .int (x3), .int (x4)] [.int (0), .int (y0)] h) : lx_X1_highestCost nc C Q 61 [.ref (x0), .int (x1), .int (x2), .int (x3), .int (x4)] [.int (y0)] h := by
  obtain ⟨Bx0, ⟨Kx0_1, Kx0_2, Kx0_3, Kx0_4, Kx0_5, Kx0_6, Kx0_7, Kx0_8, Kx0_9, Kx0_10, Kx0_11, Kx0_12, Kx0_13, Kx0_14⟩, ⟨Nx0_1, Nx0_2, Nx0_3, Nx0_4, Nx0_5, Nx0_6, Nx0_7, Nx0_8, Nx0_9, Nx0_10, Nx0_12, Nx0_13, Nx0_14⟩⟩ := tn_net Kx0_0
  refine tf_LW_go ?_
  exact q
set_option maxRecDepth 100000 in
theorem go_X1_highestCost_62 {nc : Nat} {C : tf_C} {Q : tf_Q} {h : LH} (hn : 270 ≤ nc) {x0 : Nat} {x1 : Int32} {x2 : Int32} {x3 : Int32} {x4 : Int32} {y0 : Int32} {y1 : Int32} (Kx0_0 : tf_K x0 = 0) (q : (y0 = y1 → lx_X1_highestCost nc C Q 85 [.ref (x0), .int (x1), .int (x2), .int (x3), .int (x4)] [] h) ∧ (¬ y0 = y1 → (vp_in x1 21) ∧ C 131 [.ref (x0), .int (x3)] h (fun r g => lx_X1_highestCost nc C Q 77 [.ref (x0), .int (x1), .int (x2), .int (x3), .int (x4)] (r :: [.int (h.1 (x0 + 5) (x1 : Int32).toNatClampNeg), .int (x2)]) g))) : lx_X1_highestCost nc C Q 62 [.ref (x0), .int (x1), .int (x2), .int (x3), .int (x4)] [.int (y1), .int (y0)] h := by
  obtain ⟨Bx0, ⟨Kx0_1, Kx0_2, Kx0_3, Kx0_4, Kx0_5, Kx0_6, Kx0_7, Kx0_8, Kx0_9, Kx0_10, Kx0_11, Kx0_12, Kx0_13, Kx0_14⟩, ⟨Nx0_1, Nx0_2, Nx0_3, Nx0_4, Nx0_5, Nx0_6, Nx0_7, Nx0_8, Nx0_9, Nx0_10, Nx0_12, Nx0_13, Nx0_14⟩⟩ := tn_net Kx0_0
  refine tf_LW_go ?_
  show (y0 = y1 → lx_X1_highestCost nc C Q 85 [.ref (x0), .int (x1), .int (x2), .int (x3), .int (x4)] [] h) ∧ (¬ y0 = y1 → (tf_K x0 = 0 ∧ x0 < nc) ∧ (tf_K (tf_R x0 7) = 8 ∧ (tf_R x0 7) < nc ∧ vp_in x1 (tf_N (tf_R x0 7))) ∧ 2 ≤ 4 ∧ 2 ≤ 8 ∧ C 131 [.ref (x0), .int (x3)] h (fun r g => lx_X1_highestCost nc C Q 77 [.ref (x0), .int (x1), .int (x2), .int (x3), .int (x4)] (r :: [.int (h.1 (tf_R x0 7) (x1 : Int32).toNatClampNeg), .int (x2)]) g))
  try simp only [(show tf_R x0 7 = x0 + 5 by rw [tn_R0 Kx0_0]; try omega), Nx0_5]
  exact ⟨q.1, fun c1 => ⟨⟨Kx0_0, (show x0 < nc by omega)⟩, ⟨⟨Kx0_5, (show x0 + 5 < nc by omega), (q.2 c1).1⟩, ⟨Nat.le_of_ble_eq_true rfl, Nat.le_of_ble_eq_true rfl, (q.2 c1).2⟩⟩⟩⟩
set_option maxRecDepth 100000 in
theorem go_X1_highestCost_77 {nc : Nat} {C : tf_C} {Q : tf_Q} {h : LH} (hn : 270 ≤ nc) {x0 : Nat} {x1 : Int32} {x2 : Int32} {x3 : Int32} {x4 : Int32} {y0 : Int32} {y1 : Int32} {y2 : Int32} (Kx0_0 : tf_K x0 = 0) (q : C 1002 [.int (y0), .int (y1 - (y2 * x4))] h (fun r g => lx_X1_highestCost nc C Q 84 [.ref (x0), .int (x1), .int (x2), .int (x3), .int (x4)] (r :: []) g)) : lx_X1_highestCost nc C Q 77 [.ref (x0), .int (x1), .int (x2), .int (x3), .int (x4)] [.int (y2), .int (y1), .int (y0)] h := by
  obtain ⟨Bx0, ⟨Kx0_1, Kx0_2, Kx0_3, Kx0_4, Kx0_5, Kx0_6, Kx0_7, Kx0_8, Kx0_9, Kx0_10, Kx0_11, Kx0_12, Kx0_13, Kx0_14⟩, ⟨Nx0_1, Nx0_2, Nx0_3, Nx0_4, Nx0_5, Nx0_6, Nx0_7, Nx0_8, Nx0_9, Nx0_10, Nx0_12, Nx0_13, Nx0_14⟩⟩ := tn_net Kx0_0
  refine tf_LW_go ?_
  exact ⟨Nat.le_of_ble_eq_true rfl, Nat.le_of_ble_eq_true rfl, q⟩
set_option maxRecDepth 100000 in
theorem go_X1_highestCost_84 {nc : Nat} {C : tf_C} {Q : tf_Q} {h : LH} (hn : 270 ≤ nc) {x0 : Nat} {x1 : Int32} {x2 : Int32} {x3 : Int32} {x4 : Int32} {y0 : Int32} (Kx0_0 : tf_K x0 = 0) (q : lx_X1_highestCost nc C Q 85 [.ref (x0), .int (x1), .int (y0), .int (x3), .int (x4)] [] h) : lx_X1_highestCost nc C Q 84 [.ref (x0), .int (x1), .int (x2), .int (x3), .int (x4)] [.int (y0)] h := by
  obtain ⟨Bx0, ⟨Kx0_1, Kx0_2, Kx0_3, Kx0_4, Kx0_5, Kx0_6, Kx0_7, Kx0_8, Kx0_9, Kx0_10, Kx0_11, Kx0_12, Kx0_13, Kx0_14⟩, ⟨Nx0_1, Nx0_2, Nx0_3, Nx0_4, Nx0_5, Nx0_6, Nx0_7, Nx0_8, Nx0_9, Nx0_10, Nx0_12, Nx0_13, Nx0_14⟩⟩ := tn_net Kx0_0
  refine tf_LW_go ?_
  exact q
set_option maxRecDepth 100000 in
theorem go_X1_highestCost_85 {nc : Nat} {C : tf_C} {Q : tf_Q} {h : LH} (hn : 270 ≤ nc) {x0 : Nat} {x1 : Int32} {x2 : Int32} {x3 : Int32} {x4 : Int32} (Kx0_0 : tf_K x0 = 0) (q : lx_X1_highestCost nc C Q 5 [.ref (x0), .int (x1), .int (x2), .int (x3 + 1), .int (x4)] [] h) : lx_X1_highestCost nc C Q 85 [.ref (x0), .int (x1), .int (x2), .int (x3), .int (x4)] [] h := by
  obtain ⟨Bx0, ⟨Kx0_1, Kx0_2, Kx0_3, Kx0_4, Kx0_5, Kx0_6, Kx0_7, Kx0_8, Kx0_9, Kx0_10, Kx0_11, Kx0_12, Kx0_13, Kx0_14⟩, ⟨Nx0_1, Nx0_2, Nx0_3, Nx0_4, Nx0_5, Nx0_6, Nx0_7, Nx0_8, Nx0_9, Nx0_10, Nx0_12, Nx0_13, Nx0_14⟩⟩ := tn_net Kx0_0
  refine tf_LW_go ?_
  exact q
set_option maxRecDepth 100000 in
theorem go_X1_highestCost_91 {nc : Nat} {C : tf_C} {Q : tf_Q} {h : LH} (hn : 270 ≤ nc) {x0 : Nat} {x1 : Int32} {x2 : Int32} {x3 : Int32} {x4 : Value} (Kx0_0 : tf_K x0 = 0) (q : Q (.int (x2)) h) : lx_X1_highestCost nc C Q 91 [.ref (x0), .int (x1), .int (x2), .int (x3), x4] [] h := by
  obtain ⟨Bx0, ⟨Kx0_1, Kx0_2, Kx0_3, Kx0_4, Kx0_5, Kx0_6, Kx0_7, Kx0_8, Kx0_9, Kx0_10, Kx0_11, Kx0_12, Kx0_13, Kx0_14⟩, ⟨Nx0_1, Nx0_2, Nx0_3, Nx0_4, Nx0_5, Nx0_6, Nx0_7, Nx0_8, Nx0_9, Nx0_10, Nx0_12, Nx0_13, Nx0_14⟩⟩ := tn_net Kx0_0
  refine tf_LW_go ?_
  exact ⟨(by first | trivial | rfl), q⟩
abbrev lx_X1_slope (nc : Nat) (C : tf_C) (Q : tf_Q) : tf_X := tf_LW nc C (tf_F 0) (tf_M 0) (tf_I 0) (tf_Eh 154) 1 tb_X1_slope Q
set_option maxRecDepth 100000 in
theorem go_X1_slope_0 {nc : Nat} {C : tf_C} {Q : tf_Q} {h : LH} (hn : 270 ≤ nc) {x0 : Nat} {x1 : Int32} {x2 : Int32} (Kx0_0 : tf_K x0 = 0) (q : (vp_in x1 21) ∧ ((h.1 (x0 + 7) (x1 : Int32).toNatClampNeg) = (2 : Int32) → lx_X1_slope nc C Q 21 [.ref (x0), .int (x1), .int (x2), tf_z, tf_z, tf_z, tf_z] [] h) ∧ (¬ (h.1 (x0 + 7) (x1 : Int32).toNatClampNeg) = (2 : Int32) → (x1 = x2 → lx_X1_slope nc C Q 20 [.ref (x0), .int (x1), .int (x2), tf_z, tf_z, tf_z, tf_z] [.int (1)] h) ∧ (¬ x1 = x2 → lx_X1_slope nc C Q 19 [.ref (x0), .int (x1), .int (x2), tf_z, tf_z, tf_z, tf_z] [] h))) : lx_X1_slope nc C Q 0 [.ref (x0), .int (x1), .int (x2), tf_z, tf_z, tf_z, tf_z] [] h := by
  obtain ⟨Bx0, ⟨Kx0_1, Kx0_2, Kx0_3, Kx0_4, Kx0_5, Kx0_6, Kx0_7, Kx0_8, Kx0_9, Kx0_10, Kx0_11, Kx0_12, Kx0_13, Kx0_14⟩, ⟨Nx0_1, Nx0_2, Nx0_3, Nx0_4, Nx0_5, Nx0_6, Nx0_7, Nx0_8, Nx0_9, Nx0_10, Nx0_12, Nx0_13, Nx0_14⟩⟩ := tn_net Kx0_0
  refine tf_LW_go ?_
  show (tf_K x0 = 0 ∧ x0 < nc) ∧ (tf_K (tf_R x0 9) = 8 ∧ (tf_R x0 9) < nc ∧ vp_in x1 (tf_N (tf_R x0 9))) ∧ ((h.1 (tf_R x0 9) (x1 : Int32).toNatClampNeg) = (2 : Int32) → lx_X1_slope nc C Q 21 [.ref (x0), .int (x1), .int (x2), tf_z, tf_z, tf_z, tf_z] [] h) ∧ (¬ (h.1 (tf_R x0 9) (x1 : Int32).toNatClampNeg) = (2 : Int32) → (x1 = x2 → lx_X1_slope nc C Q 20 [.ref (x0), .int (x1), .int (x2), tf_z, tf_z, tf_z, tf_z] [.int (1)] h) ∧ (¬ x1 = x2 → lx_X1_slope nc C Q 19 [.ref (x0), .int (x1), .int (x2), tf_z, tf_z, tf_z, tf_z] [] h))
  try simp only [(show tf_R x0 9 = x0 + 7 by rw [tn_R0 Kx0_0]; try omega), Nx0_7]
  exact ⟨⟨Kx0_0, (show x0 < nc by omega)⟩, ⟨⟨Kx0_7, (show x0 + 7 < nc by omega), q.1⟩, ⟨q.2.1, fun c2 => ⟨fun c1 => ((q.2.2 c2).1 c1), (q.2.2 c2).2⟩⟩⟩⟩
theorem en_X1_slope {nc d : Nat} {Q : tf_Q} {h : LH} (hn : 270 ≤ nc) {x0 : Nat} {x1 : Int32} {x2 : Int32} (Kx0_0 : tf_K x0 = 0) (q : lx_X1_slope nc (tf_Cd nc d) Q 0 [.ref (x0), .int (x1), .int (x2), tf_z, tf_z, tf_z, tf_z] [] h) : tf_Cd nc (d + 1) 154 [.ref (x0), .int (x1), .int (x2)] h Q := by
  obtain ⟨Bx0, ⟨Kx0_1, Kx0_2, Kx0_3, Kx0_4, Kx0_5, Kx0_6, Kx0_7, Kx0_8, Kx0_9, Kx0_10, Kx0_11, Kx0_12, Kx0_13, Kx0_14⟩, ⟨Nx0_1, Nx0_2, Nx0_3, Nx0_4, Nx0_5, Nx0_6, Nx0_7, Nx0_8, Nx0_9, Nx0_10, Nx0_12, Nx0_13, Nx0_14⟩⟩ := tn_net Kx0_0
  exact ⟨⟨Nat.le_of_ble_eq_true rfl, Or.inr ⟨Kx0_0, (show x0 < nc by omega)⟩⟩, q⟩
set_option maxRecDepth 100000 in
theorem go_X1_slope_19 {nc : Nat} {C : tf_C} {Q : tf_Q} {h : LH} (hn : 270 ≤ nc) {x0 : Nat} {x1 : Int32} {x2 : Int32} (Kx0_0 : tf_K x0 = 0) (q : lx_X1_slope nc C Q 20 [.ref (x0), .int (x1), .int (x2), tf_z, tf_z, tf_z, tf_z] [.int (0)] h) : lx_X1_slope nc C Q 19 [.ref (x0), .int (x1), .int (x2), tf_z, tf_z, tf_z, tf_z] [] h := by
  obtain ⟨Bx0, ⟨Kx0_1, Kx0_2, Kx0_3, Kx0_4, Kx0_5, Kx0_6, Kx0_7, Kx0_8, Kx0_9, Kx0_10, Kx0_11, Kx0_12, Kx0_13, Kx0_14⟩, ⟨Nx0_1, Nx0_2, Nx0_3, Nx0_4, Nx0_5, Nx0_6, Nx0_7, Nx0_8, Nx0_9, Nx0_10, Nx0_12, Nx0_13, Nx0_14⟩⟩ := tn_net Kx0_0
  refine tf_LW_go ?_
  exact q
set_option maxRecDepth 100000 in
theorem go_X1_slope_20 {nc : Nat} {C : tf_C} {Q : tf_Q} {h : LH} (hn : 270 ≤ nc) {x0 : Nat} {x1 : Int32} {x2 : Int32} {y0 : Int32} (Kx0_0 : tf_K x0 = 0) (q : Q (.int (y0)) h) : lx_X1_slope nc C Q 20 [.ref (x0), .int (x1), .int (x2), tf_z, tf_z, tf_z, tf_z] [.int (y0)] h := by
  obtain ⟨Bx0, ⟨Kx0_1, Kx0_2, Kx0_3, Kx0_4, Kx0_5, Kx0_6, Kx0_7, Kx0_8, Kx0_9, Kx0_10, Kx0_11, Kx0_12, Kx0_13, Kx0_14⟩, ⟨Nx0_1, Nx0_2, Nx0_3, Nx0_4, Nx0_5, Nx0_6, Nx0_7, Nx0_8, Nx0_9, Nx0_10, Nx0_12, Nx0_13, Nx0_14⟩⟩ := tn_net Kx0_0
  refine tf_LW_go ?_
  exact ⟨(by first | trivial | rfl), q⟩
set_option maxRecDepth 100000 in
theorem go_X1_slope_21 {nc : Nat} {C : tf_C} {Q : tf_Q} {h : LH} (hn : 270 ≤ nc) {x0 : Nat} {x1 : Int32} {x2 : Int32} (Kx0_0 : tf_K x0 = 0) (q : (vp_in x1 21) ∧ (vp_in (h.1 (x0 + 3) (x1 : Int32).toNatClampNeg) 7) ∧ ((h.1 (x0 + 9) (h.1 (x0 + 3) (x1 : Int32).toNatClampNeg : Int32).toNatClampNeg) = x1 → lx_X1_slope nc C Q 41 [.ref (x0), .int (x1), .int (x2), tf_z, tf_z, tf_z, tf_z] [.int (1)] h) ∧ (¬ (h.1 (x0 + 9) (h.1 (x0 + 3) (x1 : Int32).toNatClampNeg : Int32).toNatClampNeg) = x1 → lx_X1_slope nc C Q 40 [.ref (x0), .int (x1), .int (x2), tf_z, tf_z, tf_z, tf_z] [] h)) : lx_X1_slope nc C Q 21 [.ref (x0), .int (x1), .int (x2), tf_z, tf_z, tf_z, tf_z] [] h := by
  obtain ⟨Bx0, ⟨Kx0_1, Kx0_2, Kx0_3, Kx0_4, Kx0_5, Kx0_6, Kx0_7, Kx0_8, Kx0_9, Kx0_10, Kx0_11, Kx0_12, Kx0_13, Kx0_14⟩, ⟨Nx0_1, Nx0_2, Nx0_3, Nx0_4, Nx0_5, Nx0_6, Nx0_7, Nx0_8, Nx0_9, Nx0_10, Nx0_12, Nx0_13, Nx0_14⟩⟩ := tn_net Kx0_0
  refine tf_LW_go ?_
  show (tf_K x0 = 0 ∧ x0 < nc) ∧ (tf_K x0 = 0 ∧ x0 < nc) ∧ (tf_K (tf_R x0 5) = 8 ∧ (tf_R x0 5) < nc ∧ vp_in x1 (tf_N (tf_R x0 5))) ∧ (tf_K (tf_R x0 11) = 8 ∧ (tf_R x0 11) < nc ∧ vp_in (h.1 (tf_R x0 5) (x1 : Int32).toNatClampNeg) (tf_N (tf_R x0 11))) ∧ ((h.1 (tf_R x0 11) (h.1 (tf_R x0 5) (x1 : Int32).toNatClampNeg : Int32).toNatClampNeg) = x1 → lx_X1_slope nc C Q 41 [.ref (x0), .int (x1), .int (x2), tf_z, tf_z, tf_z, tf_z] [.int (1)] h) ∧ (¬ (h.1 (tf_R x0 11) (h.1 (tf_R x0 5) (x1 : Int32).toNatClampNeg : Int32).toNatClampNeg) = x1 → lx_X1_slope nc C Q 40 [.ref (x0), .int (x1), .int (x2), tf_z, tf_z, tf_z, tf_z] [] h)
  try simp only [(show tf_R x0 5 = x0 + 3 by rw [tn_R0 Kx0_0]; try omega), (show tf_R x0 11 = x0 + 9 by rw [tn_R0 Kx0_0]; try omega), Nx0_3, Nx0_9]
  exact ⟨⟨Kx0_0, (show x0 < nc by omega)⟩, ⟨⟨Kx0_0, (show x0 < nc by omega)⟩, ⟨⟨Kx0_3, (show x0 + 3 < nc by omega), q.1⟩, ⟨⟨Kx0_9, (show x0 + 9 < nc by omega), q.2.1⟩, ⟨fun c1 => (q.2.2.1 c1), q.2.2.2⟩⟩⟩⟩⟩
set_option maxRecDepth 100000 in
theorem go_X1_slope_40 {nc : Nat} {C : tf_C} {Q : tf_Q} {h : LH} (hn : 270 ≤ nc) {x0 : Nat} {x1 : Int32} {x2 : Int32} (Kx0_0 : tf_K x0 = 0) (q : lx_X1_slope nc C Q 41 [.ref (x0), .int (x1), .int (x2), tf_z, tf_z, tf_z, tf_z] [.int (0)] h) : lx_X1_slope nc C Q 40 [.ref (x0), .int (x1), .int (x2), tf_z, tf_z, tf_z, tf_z] [] h := by
  obtain ⟨Bx0, ⟨Kx0_1, Kx0_2, Kx0_3, Kx0_4, Kx0_5, Kx0_6, Kx0_7, Kx0_8, Kx0_9, Kx0_10, Kx0_11, Kx0_12, Kx0_13, Kx0_14⟩, ⟨Nx0_1, Nx0_2, Nx0_3, Nx0_4, Nx0_5, Nx0_6, Nx0_7, Nx0_8, Nx0_9, Nx0_10, Nx0_12, Nx0_13, Nx0_14⟩⟩ := tn_net Kx0_0
  refine tf_LW_go ?_
  exact q
set_option maxRecDepth 100000 in
theorem go_X1_slope_41 {nc : Nat} {C : tf_C} {Q : tf_Q} {h : LH} (hn : 270 ≤ nc) {x0 : Nat} {x1 : Int32} {x2 : Int32} {y0 : Int32} (Kx0_0 : tf_K x0 = 0) (q : (y0 = (0 : Int32) → lx_X1_slope nc C Q 55 [.ref (x0), .int (x1), .int (x2), .int (y0), tf_z, tf_z, tf_z] [] h) ∧ (¬ y0 = (0 : Int32) → (vp_in x1 21) ∧ lx_X1_slope nc C Q 61 [.ref (x0), .int (x1), .int (x2), .int (y0), tf_z, tf_z, tf_z] [.int (h.1 (x0 + 3) (x1 : Int32).toNatClampNeg)] h)) : lx_X1_slope nc C Q 41 [.ref (x0), .int (x1), .int (x2), tf_z, tf_z, tf_z, tf_z] [.int (y0)] h := by
  obtain ⟨Bx0, ⟨Kx0_1, Kx0_2, Kx0_3, Kx0_4, Kx0_5, Kx0_6, Kx0_7, Kx0_8, Kx0_9, Kx0_10, Kx0_11, Kx0_12, Kx0_13, Kx0_14⟩, ⟨Nx0_1, Nx0_2, Nx0_3, Nx0_4, Nx0_5, Nx0_6, Nx0_7, Nx0_8, Nx0_9, Nx0_10, Nx0_12, Nx0_13, Nx0_14⟩⟩ := tn_net Kx0_0
  refine tf_LW_go ?_
  show (y0 = (0 : Int32) → lx_X1_slope nc C Q 55 [.ref (x0), .int (x1), .int (x2), .int (y0), tf_z, tf_z, tf_z] [] h) ∧ (¬ y0 = (0 : Int32) → (tf_K x0 = 0 ∧ x0 < nc) ∧ (tf_K (tf_R x0 5) = 8 ∧ (tf_R x0 5) < nc ∧ vp_in x1 (tf_N (tf_R x0 5))) ∧ lx_X1_slope nc C Q 61 [.ref (x0), .int (x1), .int (x2), .int (y0), tf_z, tf_z, tf_z] [.int (h.1 (tf_R x0 5) (x1 : Int32).toNatClampNeg)] h)
  try simp only [(show tf_R x0 5 = x0 + 3 by rw [tn_R0 Kx0_0]; try omega), Nx0_3]
  exact ⟨q.1, fun c1 => ⟨⟨Kx0_0, (show x0 < nc by omega)⟩, ⟨⟨Kx0_3, (show x0 + 3 < nc by omega), (q.2 c1).1⟩, (q.2 c1).2⟩⟩⟩
set_option maxRecDepth 100000 in
theorem go_X1_slope_55 {nc : Nat} {C : tf_C} {Q : tf_Q} {h : LH} (hn : 270 ≤ nc) {x0 : Nat} {x1 : Int32} {x2 : Int32} {x3 : Int32} (Kx0_0 : tf_K x0 = 0) (q : (vp_in x1 21) ∧ lx_X1_slope nc C Q 61 [.ref (x0), .int (x1), .int (x2), .int (x3), tf_z, tf_z, tf_z] [.int (h.1 (x0 + 2) (x1 : Int32).toNatClampNeg)] h) : lx_X1_slope nc C Q 55 [.ref (x0), .int (x1), .int (x2), .int (x3), tf_z, tf_z, tf_z] [] h := by
  obtain ⟨Bx0, ⟨Kx0_1, Kx0_2, Kx0_3, Kx0_4, Kx0_5, Kx0_6, Kx0_7, Kx0_8, Kx0_9, Kx0_10, Kx0_11, Kx0_12, Kx0_13, Kx0_14⟩, ⟨Nx0_1, Nx0_2, Nx0_3, Nx0_4, Nx0_5, Nx0_6, Nx0_7, Nx0_8, Nx0_9, Nx0_10, Nx0_12, Nx0_13, Nx0_14⟩⟩ := tn_net Kx0_0
  refine tf_LW_go ?_
  show (tf_K x0 = 0 ∧ x0 < nc) ∧ (tf_K (tf_R x0 4) = 8 ∧ (tf_R x0 4) < nc ∧ vp_in x1 (tf_N (tf_R x0 4))) ∧ lx_X1_slope nc C Q 61 [.ref (x0), .int (x1), .int (x2), .int (x3), tf_z, tf_z, tf_z] [.int (h.1 (tf_R x0 4) (x1 : Int32).toNatClampNeg)] h
  try simp only [(show tf_R x0 4 = x0 + 2 by rw [tn_R0 Kx0_0]; try omega), Nx0_2]
  exact ⟨⟨Kx0_0, (show x0 < nc by omega)⟩, ⟨⟨Kx0_2, (show x0 + 2 < nc by omega), q.1⟩, q.2⟩⟩
set_option maxRecDepth 100000 in
theorem go_X1_slope_61 {nc : Nat} {C : tf_C} {Q : tf_Q} {h : LH} (hn : 270 ≤ nc) {x0 : Nat} {x1 : Int32} {x2 : Int32} {x3 : Int32} {y0 : Int32} (Kx0_0 : tf_K x0 = 0) (q : (vp_in x2 21) ∧ C 137 [.ref (x0), .int (h.1 (x0 + 2) (x2 : Int32).toNatClampNeg), .int (y0)] h (fun r g => lx_X1_slope nc C Q 75 [.ref (x0), .int (x1), .int (x2), .int (x3), .int (y0), tf_z, tf_z] (r :: []) g)) : lx_X1_slope nc C Q 61 [.ref (x0), .int (x1), .int (x2), .int (x3), tf_z, tf_z, tf_z] [.int (y0)] h := by
  obtain ⟨Bx0, ⟨Kx0_1, Kx0_2, Kx0_3, Kx0_4, Kx0_5, Kx0_6, Kx0_7, Kx0_8, Kx0_9, Kx0_10, Kx0_11, Kx0_12, Kx0_13, Kx0_14⟩, ⟨Nx0_1, Nx0_2, Nx0_3, Nx0_4, Nx0_5, Nx0_6, Nx0_7, Nx0_8, Nx0_9, Nx0_10, Nx0_12, Nx0_13, Nx0_14⟩⟩ := tn_net Kx0_0
  refine tf_LW_go ?_
  show (tf_K x0 = 0 ∧ x0 < nc) ∧ (tf_K (tf_R x0 4) = 8 ∧ (tf_R x0 4) < nc ∧ vp_in x2 (tf_N (tf_R x0 4))) ∧ 3 ≤ 3 ∧ 0 ≤ 8 ∧ C 137 [.ref (x0), .int (h.1 (tf_R x0 4) (x2 : Int32).toNatClampNeg), .int (y0)] h (fun r g => lx_X1_slope nc C Q 75 [.ref (x0), .int (x1), .int (x2), .int (x3), .int (y0), tf_z, tf_z] (r :: []) g)
  try simp only [(show tf_R x0 4 = x0 + 2 by rw [tn_R0 Kx0_0]; try omega), Nx0_2]
  exact ⟨⟨Kx0_0, (show x0 < nc by omega)⟩, ⟨⟨Kx0_2, (show x0 + 2 < nc by omega), q.1⟩, ⟨Nat.le_of_ble_eq_true rfl, Nat.le_of_ble_eq_true rfl, q.2⟩⟩⟩
set_option maxRecDepth 100000 in
theorem go_X1_slope_75 {nc : Nat} {C : tf_C} {Q : tf_Q} {h : LH} (hn : 270 ≤ nc) {x0 : Nat} {x1 : Int32} {x2 : Int32} {x3 : Int32} {x4 : Int32} {y0 : Int32} (Kx0_0 : tf_K x0 = 0) (q : (y0 = (0 : Int32) → lx_X1_slope nc C Q 82 [.ref (x0), .int (x1), .int (x2), .int (x3), .int (x4), tf_z, tf_z] [] h) ∧ (¬ y0 = (0 : Int32) → lx_X1_slope nc C Q 83 [.ref (x0), .int (x1), .int (x2), .int (x3), .int (x4), tf_z, tf_z] [.int (1)] h)) : lx_X1_slope nc C Q 75 [.ref (x0), .int (x1), .int (x2), .int (x3), .int (x4), tf_z, tf_z] [.int (y0)] h := by
  obtain ⟨Bx0, ⟨Kx0_1, Kx0_2, Kx0_3, Kx0_4, Kx0_5, Kx0_6, Kx0_7, Kx0_8, Kx0_9, Kx0_10, Kx0_11, Kx0_12, Kx0_13, Kx0_14⟩, ⟨Nx0_1, Nx0_2, Nx0_3, Nx0_4, Nx0_5, Nx0_6, Nx0_7, Nx0_8, Nx0_9, Nx0_10, Nx0_12, Nx0_13, Nx0_14⟩⟩ := tn_net Kx0_0
  refine tf_LW_go ?_
  exact ⟨q.1, fun c1 => (q.2 c1)⟩
set_option maxRecDepth 100000 in
theorem go_X1_slope_82 {nc : Nat} {C : tf_C} {Q : tf_Q} {h : LH} (hn : 270 ≤ nc) {x0 : Nat} {x1 : Int32} {x2 : Int32} {x3 : Int32} {x4 : Int32} (Kx0_0 : tf_K x0 = 0) (q : lx_X1_slope nc C Q 83 [.ref (x0), .int (x1), .int (x2), .int (x3), .int (x4), tf_z, tf_z] [.int (0)] h) : lx_X1_slope nc C Q 82 [.ref (x0), .int (x1), .int (x2), .int (x3), .int (x4), tf_z, tf_z] [] h := by
  obtain ⟨Bx0, ⟨Kx0_1, Kx0_2, Kx0_3, Kx0_4, Kx0_5, Kx0_6, Kx0_7, Kx0_8, Kx0_9, Kx0_10, Kx0_11, Kx0_12, Kx0_13, Kx0_14⟩, ⟨Nx0_1, Nx0_2, Nx0_3, Nx0_4, Nx0_5, Nx0_6, Nx0_7, Nx0_8, Nx0_9, Nx0_10, Nx0_12, Nx0_13, Nx0_14⟩⟩ := tn_net Kx0_0
  refine tf_LW_go ?_
  exact q
set_option maxRecDepth 100000 in
theorem go_X1_slope_83 {nc : Nat} {C : tf_C} {Q : tf_Q} {h : LH} (hn : 270 ≤ nc) {x0 : Nat} {x1 : Int32} {x2 : Int32} {x3 : Int32} {x4 : Int32} {y0 : Int32} (Kx0_0 : tf_K x0 = 0) (q : (vp_in x2 21) ∧ C 137 [.ref (x0), .int (h.1 (x0 + 3) (x2 : Int32).toNatClampNeg), .int (x4)] h (fun r g => lx_X1_slope nc C Q 97 [.ref (x0), .int (x1), .int (x2), .int (x3), .int (x4), .int (y0), tf_z] (r :: []) g)) : lx_X1_slope nc C Q 83 [.ref (x0), .int (x1), .int (x2), .int (x3), .int (x4), tf_z, tf_z] [.int (y0)] h := by
  obtain ⟨Bx0, ⟨Kx0_1, Kx0_2, Kx0_3, Kx0_4, Kx0_5, Kx0_6, Kx0_7, Kx0_8, Kx0_9, Kx0_10, Kx0_11, Kx0_12, Kx0_13, Kx0_14⟩, ⟨Nx0_1, Nx0_2, Nx0_3, Nx0_4, Nx0_5, Nx0_6, Nx0_7, Nx0_8, Nx0_9, Nx0_10, Nx0_12, Nx0_13, Nx0_14⟩⟩ := tn_net Kx0_0
  refine tf_LW_go ?_
  show (tf_K x0 = 0 ∧ x0 < nc) ∧ (tf_K (tf_R x0 5) = 8 ∧ (tf_R x0 5) < nc ∧ vp_in x2 (tf_N (tf_R x0 5))) ∧ 3 ≤ 3 ∧ 0 ≤ 8 ∧ C 137 [.ref (x0), .int (h.1 (tf_R x0 5) (x2 : Int32).toNatClampNeg), .int (x4)] h (fun r g => lx_X1_slope nc C Q 97 [.ref (x0), .int (x1), .int (x2), .int (x3), .int (x4), .int (y0), tf_z] (r :: []) g)
  try simp only [(show tf_R x0 5 = x0 + 3 by rw [tn_R0 Kx0_0]; try omega), Nx0_3]
  exact ⟨⟨Kx0_0, (show x0 < nc by omega)⟩, ⟨⟨Kx0_3, (show x0 + 3 < nc by omega), q.1⟩, ⟨Nat.le_of_ble_eq_true rfl, Nat.le_of_ble_eq_true rfl, q.2⟩⟩⟩
set_option maxRecDepth 100000 in
theorem go_X1_slope_97 {nc : Nat} {C : tf_C} {Q : tf_Q} {h : LH} (hn : 270 ≤ nc) {x0 : Nat} {x1 : Int32} {x2 : Int32} {x3 : Int32} {x4 : Int32} {x5 : Int32} {y0 : Int32} (Kx0_0 : tf_K x0 = 0) (q : (y0 = (0 : Int32) → lx_X1_slope nc C Q 104 [.ref (x0), .int (x1), .int (x2), .int (x3), .int (x4), .int (x5), tf_z] [] h) ∧ (¬ y0 = (0 : Int32) → lx_X1_slope nc C Q 105 [.ref (x0), .int (x1), .int (x2), .int (x3), .int (x4), .int (x5), tf_z] [.int (1)] h)) : lx_X1_slope nc C Q 97 [.ref (x0), .int (x1), .int (x2), .int (x3), .int (x4), .int (x5), tf_z] [.int (y0)] h := by
  obtain ⟨Bx0, ⟨Kx0_1, Kx0_2, Kx0_3, Kx0_4, Kx0_5, Kx0_6, Kx0_7, Kx0_8, Kx0_9, Kx0_10, Kx0_11, Kx0_12, Kx0_13, Kx0_14⟩, ⟨Nx0_1, Nx0_2, Nx0_3, Nx0_4, Nx0_5, Nx0_6, Nx0_7, Nx0_8, Nx0_9, Nx0_10, Nx0_12, Nx0_13, Nx0_14⟩⟩ := tn_net Kx0_0
  refine tf_LW_go ?_
  exact ⟨q.1, fun c1 => (q.2 c1)⟩
set_option maxRecDepth 100000 in
theorem go_X1_slope_104 {nc : Nat} {C : tf_C} {Q : tf_Q} {h : LH} (hn : 270 ≤ nc) {x0 : Nat} {x1 : Int32} {x2 : Int32} {x3 : Int32} {x4 : Int32} {x5 : Int32} (Kx0_0 : tf_K x0 = 0) (q : lx_X1_slope nc C Q 105 [.ref (x0), .int (x1), .int (x2), .int (x3), .int (x4), .int (x5), tf_z] [.int (0)] h) : lx_X1_slope nc C Q 104 [.ref (x0), .int (x1), .int (x2), .int (x3), .int (x4), .int (x5), tf_z] [] h := by
  obtain ⟨Bx0, ⟨Kx0_1, Kx0_2, Kx0_3, Kx0_4, Kx0_5, Kx0_6, Kx0_7, Kx0_8, Kx0_9, Kx0_10, Kx0_11, Kx0_12, Kx0_13, Kx0_14⟩, ⟨Nx0_1, Nx0_2, Nx0_3, Nx0_4, Nx0_5, Nx0_6, Nx0_7, Nx0_8, Nx0_9, Nx0_10, Nx0_12, Nx0_13, Nx0_14⟩⟩ := tn_net Kx0_0
  refine tf_LW_go ?_
  exact q
set_option maxRecDepth 100000 in
theorem go_X1_slope_105 {nc : Nat} {C : tf_C} {Q : tf_Q} {h : LH} (hn : 270 ≤ nc) {x0 : Nat} {x1 : Int32} {x2 : Int32} {x3 : Int32} {x4 : Int32} {x5 : Int32} {y0 : Int32} (Kx0_0 : tf_K x0 = 0) (q : (x3 = (0 : Int32) → lx_X1_slope nc C Q 119 [.ref (x0), .int (x1), .int (x2), .int (x3), .int (x4), .int (x5), .int (y0)] [] h) ∧ (¬ x3 = (0 : Int32) → lx_X1_slope nc C Q 124 [.ref (x0), .int (x1), .int (x2), .int (x3), .int (x4), .int (x5), .int (y0)] [.int (x5 - y0)] h)) : lx_X1_slope nc C Q 105 [.ref (x0), .int (x1), .int (x2), .int (x3), .int (x4), .int (x5), tf_z] [.int (y0)] h := by
  obtain ⟨Bx0, ⟨Kx0_1, Kx0_2, Kx0_3, Kx0_4, Kx0_5, Kx0_6, Kx0_7, Kx0_8, Kx0_9, Kx0_10, Kx0_11, Kx0_12, Kx0_13, Kx0_14⟩, ⟨Nx0_1, Nx0_2, Nx0_3, Nx0_4, Nx0_5, Nx0_6, Nx0_7, Nx0_8, Nx0_9, Nx0_10, Nx0_12, Nx0_13, Nx0_14⟩⟩ := tn_net Kx0_0
  refine tf_LW_go ?_
  exact ⟨q.1, fun c1 => (q.2 c1)⟩
set_option maxRecDepth 100000 in
theorem go_X1_slope_119 {nc : Nat} {C : tf_C} {Q : tf_Q} {h : LH} (hn : 270 ≤ nc) {x0 : Nat} {x1 : Int32} {x2 : Int32} {x3 : Int32} {x4 : Int32} {x5 : Int32} {x6 : Int32} (Kx0_0 : tf_K x0 = 0) (q : lx_X1_slope nc C Q 124 [.ref (x0), .int (x1), .int (x2), .int (x3), .int (x4), .int (x5), .int (x6)] [.int (x6 - x5)] h) : lx_X1_slope nc C Q 119 [.ref (x0), .int (x1), .int (x2), .int (x3), .int (x4), .int (x5), .int (x6)] [] h := by
  obtain ⟨Bx0, ⟨Kx0_1, Kx0_2, Kx0_3, Kx0_4, Kx0_5, Kx0_6, Kx0_7, Kx0_8, Kx0_9, Kx0_10, Kx0_11, Kx0_12, Kx0_13, Kx0_14⟩, ⟨Nx0_1, Nx0_2, Nx0_3, Nx0_4, Nx0_5, Nx0_6, Nx0_7, Nx0_8, Nx0_9, Nx0_10, Nx0_12, Nx0_13, Nx0_14⟩⟩ := tn_net Kx0_0
  refine tf_LW_go ?_
  exact q
set_option maxRecDepth 100000 in
theorem go_X1_slope_124 {nc : Nat} {C : tf_C} {Q : tf_Q} {h : LH} (hn : 270 ≤ nc) {x0 : Nat} {x1 : Int32} {x2 : Int32} {x3 : Int32} {x4 : Int32} {x5 : Int32} {x6 : Int32} {y0 : Int32} (Kx0_0 : tf_K x0 = 0) (q : Q (.int (y0)) h) : lx_X1_slope nc C Q 124 [.ref (x0), .int (x1), .int (x2), .int (x3), .int (x4), .int (x5), .int (x6)] [.int (y0)] h := by
  obtain ⟨Bx0, ⟨Kx0_1, Kx0_2, Kx0_3, Kx0_4, Kx0_5, Kx0_6, Kx0_7, Kx0_8, Kx0_9, Kx0_10, Kx0_11, Kx0_12, Kx0_13, Kx0_14⟩, ⟨Nx0_1, Nx0_2, Nx0_3, Nx0_4, Nx0_5, Nx0_6, Nx0_7, Nx0_8, Nx0_9, Nx0_10, Nx0_12, Nx0_13, Nx0_14⟩⟩ := tn_net Kx0_0
  refine tf_LW_go ?_
  exact ⟨(by first | trivial | rfl), q⟩
abbrev lx_X2_put (nc : Nat) (C : tf_C) (Q : tf_Q) : tf_X := tf_LW nc C (tf_F 1) (tf_M 1) (tf_I 1) (tf_Eh 155) 0 tb_X2_put Q
set_option maxRecDepth 100000 in
theorem go_X2_put_0 {nc : Nat} {C : tf_C} {Q : tf_Q} {h : LH} (hn : 270 ≤ nc) {x0 : Nat} {x1 : Int32} (Kx0_0 : tf_K x0 = 1) (q : ((400 : Int32) ≤ (h.1 x0 1) → lx_X2_put nc C Q 31 [.ref (x0), .int (x1)] [] h) ∧ (¬ (400 : Int32) ≤ (h.1 x0 1) → (vp_in (h.1 x0 1) 400) ∧ lx_X2_put nc C Q 31 [.ref (x0), .int (x1)] [] (tf_up (tf_up h.1 (x0 + 1) (h.1 x0 1 : Int32).toNatClampNeg (vp_nar .char (((x1 : Int32).toUInt32 % 65536).toInt32))) x0 1 (((tf_up h.1 (x0 + 1) (h.1 x0 1 : Int32).toNatClampNeg (vp_nar .char (((x1 : Int32).toUInt32 % 65536).toInt32))) x0 1) + 1), h.2))) : lx_X2_put nc C Q 0 [.ref (x0), .int (x1)] [] h := by
  obtain ⟨Bx0, Kx0_1, Nx0_1⟩ := tn_page Kx0_0
  refine tf_LW_go ?_
  show (tf_K x0 = 1 ∧ x0 < nc) ∧ ((400 : Int32) ≤ (h.1 x0 1) → lx_X2_put nc C Q 31 [.ref (x0), .int (x1)] [] h) ∧ (¬ (400 : Int32) ≤ (h.1 x0 1) → (tf_K x0 = 1 ∧ x0 < nc) ∧ (tf_K x0 = 1 ∧ x0 < nc) ∧ (tf_K (tf_R x0 0) = 9 ∧ (tf_R x0 0) < nc ∧ vp_in (h.1 x0 1) (tf_N (tf_R x0 0))) ∧ (tf_K x0 = 1 ∧ x0 < nc) ∧ (tf_K x0 = 1 ∧ x0 < nc ∧ tf_S 1 1 = 0) ∧ lx_X2_put nc C Q 31 [.ref (x0), .int (x1)] [] (tf_up (tf_up h.1 (tf_R x0 0) (h.1 x0 1 : Int32).toNatClampNeg (vp_nar .char (((x1 : Int32).toUInt32 % 65536).toInt32))) x0 1 (((tf_up h.1 (tf_R x0 0) (h.1 x0 1 : Int32).toNatClampNeg (vp_nar .char (((x1 : Int32).toUInt32 % 65536).toInt32))) x0 1) + 1), h.2))
  try simp only [(show tf_R x0 0 = x0 + 1 by rw [tn_R1 Kx0_0]; try omega), Nx0_1]
  exact ⟨⟨Kx0_0, (show x0 < nc by omega)⟩, ⟨q.1, fun c1 => ⟨⟨Kx0_0, (show x0 < nc by omega)⟩, ⟨⟨Kx0_0, (show x0 < nc by omega)⟩, ⟨⟨Kx0_1, (show x0 + 1 < nc by omega), (q.2 c1).1⟩, ⟨⟨Kx0_0, (show x0 < nc by omega)⟩, ⟨⟨Kx0_0, (show x0 < nc by omega), (by first | rfl | trivial)⟩, (q.2 c1).2⟩⟩⟩⟩⟩⟩⟩
theorem en_X2_put {nc d : Nat} {Q : tf_Q} {h : LH} (hn : 270 ≤ nc) {x0 : Nat} {x1 : Int32} (Kx0_0 : tf_K x0 = 1) (q : lx_X2_put nc (tf_Cd nc d) Q 0 [.ref (x0), .int (x1)] [] h) : tf_Cd nc (d + 1) 155 [.ref (x0), .int (x1)] h Q := by
  obtain ⟨Bx0, Kx0_1, Nx0_1⟩ := tn_page Kx0_0
  exact ⟨⟨Nat.le_of_ble_eq_true rfl, Or.inr ⟨Kx0_0, (show x0 < nc by omega)⟩⟩, q⟩
set_option maxRecDepth 100000 in
theorem go_X2_put_31 {nc : Nat} {C : tf_C} {Q : tf_Q} {h : LH} (hn : 270 ≤ nc) {x0 : Nat} {x1 : Int32} (Kx0_0 : tf_K x0 = 1) (q : Q tf_z h) : lx_X2_put nc C Q 31 [.ref (x0), .int (x1)] [] h := by
  obtain ⟨Bx0, Kx0_1, Nx0_1⟩ := tn_page Kx0_0
  refine tf_LW_go ?_
  exact ⟨(by first | rfl | trivial), q⟩
abbrev lx_X2_copyFrom (nc : Nat) (C : tf_C) (Q : tf_Q) : tf_X := tf_LW nc C (tf_F 1) (tf_M 1) (tf_I 1) (tf_Eh 156) 0 tb_X2_copyFrom Q
set_option maxRecDepth 100000 in
theorem go_X2_copyFrom_0 {nc : Nat} {C : tf_C} {Q : tf_Q} {h : LH} (hn : 270 ≤ nc) {x0 : Nat} {x1 : Nat} (Kx0_0 : tf_K x0 = 1) (Kx1_0 : tf_K x1 = 1) (q : C 1004 [.ref (x1 + 1), .int (0), .ref (x0 + 1), .int (0), .int (400)] h (fun r g => lx_X2_copyFrom nc C Q 16 [.ref (x0), .ref (x1)] [] g)) : lx_X2_copyFrom nc C Q 0 [.ref (x0), .ref (x1)] [] h := by
  obtain ⟨Bx0, Kx0_1, Nx0_1⟩ := tn_page Kx0_0
  obtain ⟨Bx1, Kx1_1, Nx1_1⟩ := tn_page Kx1_0
  refine tf_LW_go ?_
  show (tf_K x1 = 1 ∧ x1 < nc) ∧ (tf_K x0 = 1 ∧ x0 < nc) ∧ 5 ≤ 5 ∧ 0 ≤ 8 ∧ C 1004 [.ref (tf_R x1 0), .int (0), .ref (tf_R x0 0), .int (0), .int (400)] h (fun r g => lx_X2_copyFrom nc C Q 16 [.ref (x0), .ref (x1)] [] g)
  try simp only [(show tf_R x0 0 = x0 + 1 by rw [tn_R1 Kx0_0]; try omega), (show tf_R x1 0 = x1 + 1 by rw [tn_R1 Kx1_0]; try omega), Nx0_1, Nx1_1]
  exact ⟨⟨Kx1_0, (show x1 < nc by omega)⟩, ⟨⟨Kx0_0, (show x0 < nc by omega)⟩, ⟨Nat.le_of_ble_eq_true rfl, Nat.le_of_ble_eq_true rfl, q⟩⟩⟩
theorem en_X2_copyFrom {nc d : Nat} {Q : tf_Q} {h : LH} (hn : 270 ≤ nc) {x0 : Nat} {x1 : Nat} (Kx0_0 : tf_K x0 = 1) (Kx1_0 : tf_K x1 = 1) (q : lx_X2_copyFrom nc (tf_Cd nc d) Q 0 [.ref (x0), .ref (x1)] [] h) : tf_Cd nc (d + 1) 156 [.ref (x0), .ref (x1)] h Q := by
  obtain ⟨Bx0, Kx0_1, Nx0_1⟩ := tn_page Kx0_0
  obtain ⟨Bx1, Kx1_1, Nx1_1⟩ := tn_page Kx1_0
  exact ⟨⟨Nat.le_of_ble_eq_true rfl, Or.inr ⟨Kx0_0, (show x0 < nc by omega)⟩⟩, q⟩
set_option maxRecDepth 100000 in
theorem go_X2_copyFrom_16 {nc : Nat} {C : tf_C} {Q : tf_Q} {h : LH} (hn : 270 ≤ nc) {x0 : Nat} {x1 : Nat} (Kx0_0 : tf_K x0 = 1) (Kx1_0 : tf_K x1 = 1) (q : Q tf_z (tf_up (tf_up (tf_up h.1 x0 1 (h.1 x1 1)) x0 2 ((tf_up h.1 x0 1 (h.1 x1 1)) x1 2)) x0 3 ((tf_up (tf_up h.1 x0 1 (h.1 x1 1)) x0 2 ((tf_up h.1 x0 1 (h.1 x1 1)) x1 2)) x1 3), h.2)) : lx_X2_copyFrom nc C Q 16 [.ref (x0), .ref (x1)] [] h := by
  obtain ⟨Bx0, Kx0_1, Nx0_1⟩ := tn_page Kx0_0
  obtain ⟨Bx1, Kx1_1, Nx1_1⟩ := tn_page Kx1_0
  refine tf_LW_go ?_
  exact ⟨⟨Kx1_0, (show x1 < nc by omega)⟩, ⟨⟨Kx0_0, (show x0 < nc by omega), (by first | rfl | trivial)⟩, ⟨⟨Kx1_0, (show x1 < nc by omega)⟩, ⟨⟨Kx0_0, (show x0 < nc by omega), (by first | rfl | trivial)⟩, ⟨⟨Kx1_0, (show x1 < nc by omega)⟩, ⟨⟨Kx0_0, (show x0 < nc by omega), (by first | rfl | trivial)⟩, ⟨(by first | rfl | trivial), q⟩⟩⟩⟩⟩⟩⟩
abbrev lx_X5_clear (nc : Nat) (C : tf_C) (Q : tf_Q) : tf_X := tf_LW nc C (tf_F 4) (tf_M 4) (tf_I 4) (tf_Eh 170) 0 tb_X5_clear Q
set_option maxRecDepth 100000 in
theorem go_X5_clear_0 {nc : Nat} {C : tf_C} {Q : tf_Q} {h : LH} (hn : 270 ≤ nc) {x0 : Nat} (Kx0_0 : tf_K x0 = 4) (q : Q tf_z (tf_up (tf_up (tf_up (tf_up h.1 x0 0 0) x0 1 0) x0 2 0) x0 3 (-1), h.2)) : lx_X5_clear nc C Q 0 [.ref (x0)] [] h := by
  obtain ⟨Bx0, ⟨Kx0_1, Kx0_2, Kx0_3⟩, ⟨Nx0_1, Nx0_2, Nx0_3⟩⟩ := tn_tally Kx0_0
  refine tf_LW_go ?_
  exact ⟨⟨Kx0_0, (show x0 < nc by omega), (by first | rfl | trivial)⟩, ⟨⟨Kx0_0, (show x0 < nc by omega), (by first | rfl | trivial)⟩, ⟨⟨Kx0_0, (show x0 < nc by omega), (by first | rfl | trivial)⟩, ⟨⟨Kx0_0, (show x0 < nc by omega), (by first | rfl | trivial)⟩, ⟨(by first | rfl | trivial), q⟩⟩⟩⟩⟩
theorem en_X5_clear {nc d : Nat} {Q : tf_Q} {h : LH} (hn : 270 ≤ nc) {x0 : Nat} (Kx0_0 : tf_K x0 = 4) (q : lx_X5_clear nc (tf_Cd nc d) Q 0 [.ref (x0)] [] h) : tf_Cd nc (d + 1) 170 [.ref (x0)] h Q := by
  obtain ⟨Bx0, ⟨Kx0_1, Kx0_2, Kx0_3⟩, ⟨Nx0_1, Nx0_2, Nx0_3⟩⟩ := tn_tally Kx0_0
  exact ⟨⟨Nat.le_of_ble_eq_true rfl, Or.inr ⟨Kx0_0, (show x0 < nc by omega)⟩⟩, q⟩
abbrev lx_X5_copyFrom (nc : Nat) (C : tf_C) (Q : tf_Q) : tf_X := tf_LW nc C (tf_F 4) (tf_M 4) (tf_I 4) (tf_Eh 171) 0 tb_X5_copyFrom Q
set_option maxRecDepth 100000 in
theorem go_X5_copyFrom_0 {nc : Nat} {C : tf_C} {Q : tf_Q} {h : LH} (hn : 270 ≤ nc) {x0 : Nat} {x1 : Nat} (Kx0_0 : tf_K x0 = 4) (Kx1_0 : tf_K x1 = 4) (q : C 1003 [.ref (x1 + 1), .int (0), .ref (x0 + 1), .int (0), .int (12)] (tf_up (tf_up (tf_up (tf_up h.1 x0 0 (h.1 x1 0)) x0 1 ((tf_up h.1 x0 0 (h.1 x1 0)) x1 1)) x0 2 ((tf_up (tf_up h.1 x0 0 (h.1 x1 0)) x0 1 ((tf_up h.1 x0 0 (h.1 x1 0)) x1 1)) x1 2)) x0 3 ((tf_up (tf_up (tf_up h.1 x0 0 (h.1 x1 0)) x0 1 ((tf_up h.1 x0 0 (h.1 x1 0)) x1 1)) x0 2 ((tf_up (tf_up h.1 x0 0 (h.1 x1 0)) x0 1 ((tf_up h.1 x0 0 (h.1 x1 0)) x1 1)) x1 2)) x1 3), h.2) (fun r g => lx_X5_copyFrom nc C Q 47 [.ref (x0), .ref (x1)] [] g)) : lx_X5_copyFrom nc C Q 0 [.ref (x0), .ref (x1)] [] h := by
  obtain ⟨Bx0, ⟨Kx0_1, Kx0_2, Kx0_3⟩, ⟨Nx0_1, Nx0_2, Nx0_3⟩⟩ := tn_tally Kx0_0
  obtain ⟨Bx1, ⟨Kx1_1, Kx1_2, Kx1_3⟩, ⟨Nx1_1, Nx1_2, Nx1_3⟩⟩ := tn_tally Kx1_0
  refine tf_LW_go ?_
  show (tf_K x1 = 4 ∧ x1 < nc) ∧ (tf_K x0 = 4 ∧ x0 < nc ∧ tf_S 4 0 = 0) ∧ (tf_K x1 = 4 ∧ x1 < nc) ∧ (tf_K x0 = 4 ∧ x0 < nc ∧ tf_S 4 1 = 0) ∧ (tf_K x1 = 4 ∧ x1 < nc) ∧ (tf_K x0 = 4 ∧ x0 < nc ∧ tf_S 4 2 = 0) ∧ (tf_K x1 = 4 ∧ x1 < nc) ∧ (tf_K x0 = 4 ∧ x0 < nc ∧ tf_S 4 3 = 0) ∧ (tf_K x1 = 4 ∧ x1 < nc) ∧ (tf_K x0 = 4 ∧ x0 < nc) ∧ 5 ≤ 5 ∧ 0 ≤ 8 ∧ C 1003 [.ref (tf_R x1 4), .int (0), .ref (tf_R x0 4), .int (0), .int (12)] (tf_up (tf_up (tf_up (tf_up h.1 x0 0 (h.1 x1 0)) x0 1 ((tf_up h.1 x0 0 (h.1 x1 0)) x1 1)) x0 2 ((tf_up (tf_up h.1 x0 0 (h.1 x1 0)) x0 1 ((tf_up h.1 x0 0 (h.1 x1 0)) x1 1)) x1 2)) x0 3 ((tf_up (tf_up (tf_up h.1 x0 0 (h.1 x1 0)) x0 1 ((tf_up h.1 x0 0 (h.1 x1 0)) x1 1)) x0 2 ((tf_up (tf_up h.1 x0 0 (h.1 x1 0)) x0 1 ((tf_up h.1 x0 0 (h.1 x1 0)) x1 1)) x1 2)) x1 3), h.2) (fun r g => lx_X5_copyFrom nc C Q 47 [.ref (x0), .ref (x1)] [] g)
  try simp only [(show tf_R x0 4 = x0 + 1 by rw [tn_R4 Kx0_0]; try omega), (show tf_R x1 4 = x1 + 1 by rw [tn_R4 Kx1_0]; try omega), Nx0_1, Nx1_1]
  exact ⟨⟨Kx1_0, (show x1 < nc by omega)⟩, ⟨⟨Kx0_0, (show x0 < nc by omega), (by first | rfl | trivial)⟩, ⟨⟨Kx1_0, (show x1 < nc by omega)⟩, ⟨⟨Kx0_0, (show x0 < nc by omega), (by first | rfl | trivial)⟩, ⟨⟨Kx1_0, (show x1 < nc by omega)⟩, ⟨⟨Kx0_0, (show x0 < nc by omega), (by first | rfl | trivial)⟩, ⟨⟨Kx1_0, (show x1 < nc by omega)⟩, ⟨⟨Kx0_0, (show x0 < nc by omega), (by first | rfl | trivial)⟩, ⟨⟨Kx1_0, (show x1 < nc by omega)⟩, ⟨⟨Kx0_0, (show x0 < nc by omega)⟩, ⟨Nat.le_of_ble_eq_true rfl, Nat.le_of_ble_eq_true rfl, q⟩⟩⟩⟩⟩⟩⟩⟩⟩⟩⟩
theorem en_X5_copyFrom {nc d : Nat} {Q : tf_Q} {h : LH} (hn : 270 ≤ nc) {x0 : Nat} {x1 : Nat} (Kx0_0 : tf_K x0 = 4) (Kx1_0 : tf_K x1 = 4) (q : lx_X5_copyFrom nc (tf_Cd nc d) Q 0 [.ref (x0), .ref (x1)] [] h) : tf_Cd nc (d + 1) 171 [.ref (x0), .ref (x1)] h Q := by
  obtain ⟨Bx0, ⟨Kx0_1, Kx0_2, Kx0_3⟩, ⟨Nx0_1, Nx0_2, Nx0_3⟩⟩ := tn_tally Kx0_0
  obtain ⟨Bx1, ⟨Kx1_1, Kx1_2, Kx1_3⟩, ⟨Nx1_1, Nx1_2, Nx1_3⟩⟩ := tn_tally Kx1_0
  exact ⟨⟨Nat.le_of_ble_eq_true rfl, Or.inr ⟨Kx0_0, (show x0 < nc by omega)⟩⟩, q⟩
set_option maxRecDepth 100000 in
theorem go_X5_copyFrom_47 {nc : Nat} {C : tf_C} {Q : tf_Q} {h : LH} (hn : 270 ≤ nc) {x0 : Nat} {x1 : Nat} (Kx0_0 : tf_K x0 = 4) (Kx1_0 : tf_K x1 = 4) (q : C 1003 [.ref (x1 + 2), .int (0), .ref (x0 + 2), .int (0), .int (12)] h (fun r g => lx_X5_copyFrom nc C Q 62 [.ref (x0), .ref (x1)] [] g)) : lx_X5_copyFrom nc C Q 47 [.ref (x0), .ref (x1)] [] h := by
  obtain ⟨Bx0, ⟨Kx0_1, Kx0_2, Kx0_3⟩, ⟨Nx0_1, Nx0_2, Nx0_3⟩⟩ := tn_tally Kx0_0
  obtain ⟨Bx1, ⟨Kx1_1, Kx1_2, Kx1_3⟩, ⟨Nx1_1, Nx1_2, Nx1_3⟩⟩ := tn_tally Kx1_0
  refine tf_LW_go ?_
  show (tf_K x1 = 4 ∧ x1 < nc) ∧ (tf_K x0 = 4 ∧ x0 < nc) ∧ 5 ≤ 5 ∧ 0 ≤ 8 ∧ C 1003 [.ref (tf_R x1 5), .int (0), .ref (tf_R x0 5), .int (0), .int (12)] h (fun r g => lx_X5_copyFrom nc C Q 62 [.ref (x0), .ref (x1)] [] g)
  try simp only [(show tf_R x0 5 = x0 + 2 by rw [tn_R4 Kx0_0]; try omega), (show tf_R x1 5 = x1 + 2 by rw [tn_R4 Kx1_0]; try omega), Nx0_2, Nx1_2]
  exact ⟨⟨Kx1_0, (show x1 < nc by omega)⟩, ⟨⟨Kx0_0, (show x0 < nc by omega)⟩, ⟨Nat.le_of_ble_eq_true rfl, Nat.le_of_ble_eq_true rfl, q⟩⟩⟩
set_option maxRecDepth 100000 in
theorem go_X5_copyFrom_62 {nc : Nat} {C : tf_C} {Q : tf_Q} {h : LH} (hn : 270 ≤ nc) {x0 : Nat} {x1 : Nat} (Kx0_0 : tf_K x0 = 4) (Kx1_0 : tf_K x1 = 4) (q : C 1003 [.ref (x1 + 3), .int (0), .ref (x0 + 3), .int (0), .int (12)] h (fun r g => lx_X5_copyFrom nc C Q 77 [.ref (x0), .ref (x1)] [] g)) : lx_X5_copyFrom nc C Q 62 [.ref (x0), .ref (x1)] [] h := by
  obtain ⟨Bx0, ⟨Kx0_1, Kx0_2, Kx0_3⟩, ⟨Nx0_1, Nx0_2, Nx0_3⟩⟩ := tn_tally Kx0_0
  obtain ⟨Bx1, ⟨Kx1_1, Kx1_2, Kx1_3⟩, ⟨Nx1_1, Nx1_2, Nx1_3⟩⟩ := tn_tally Kx1_0
  refine tf_LW_go ?_
  show (tf_K x1 = 4 ∧ x1 < nc) ∧ (tf_K x0 = 4 ∧ x0 < nc) ∧ 5 ≤ 5 ∧ 0 ≤ 8 ∧ C 1003 [.ref (tf_R x1 6), .int (0), .ref (tf_R x0 6), .int (0), .int (12)] h (fun r g => lx_X5_copyFrom nc C Q 77 [.ref (x0), .ref (x1)] [] g)
  try simp only [(show tf_R x0 6 = x0 + 3 by rw [tn_R4 Kx0_0]; try omega), (show tf_R x1 6 = x1 + 3 by rw [tn_R4 Kx1_0]; try omega), Nx0_3, Nx1_3]
  exact ⟨⟨Kx1_0, (show x1 < nc by omega)⟩, ⟨⟨Kx0_0, (show x0 < nc by omega)⟩, ⟨Nat.le_of_ble_eq_true rfl, Nat.le_of_ble_eq_true rfl, q⟩⟩⟩
set_option maxRecDepth 100000 in
theorem go_X5_copyFrom_77 {nc : Nat} {C : tf_C} {Q : tf_Q} {h : LH} (hn : 270 ≤ nc) {x0 : Nat} {x1 : Nat} (Kx0_0 : tf_K x0 = 4) (Kx1_0 : tf_K x1 = 4) (q : Q tf_z h) : lx_X5_copyFrom nc C Q 77 [.ref (x0), .ref (x1)] [] h := by
  obtain ⟨Bx0, ⟨Kx0_1, Kx0_2, Kx0_3⟩, ⟨Nx0_1, Nx0_2, Nx0_3⟩⟩ := tn_tally Kx0_0
  obtain ⟨Bx1, ⟨Kx1_1, Kx1_2, Kx1_3⟩, ⟨Nx1_1, Nx1_2, Nx1_3⟩⟩ := tn_tally Kx1_0
  refine tf_LW_go ?_
  exact ⟨(by first | rfl | trivial), q⟩
abbrev lx_X5_count (nc : Nat) (C : tf_C) (Q : tf_Q) : tf_X := tf_LW nc C (tf_F 4) (tf_M 4) (tf_I 4) (tf_Eh 172) 0 tb_X5_count Q
set_option maxRecDepth 100000 in
theorem go_X5_count_0 {nc : Nat} {C : tf_C} {Q : tf_Q} {h : LH} (hn : 270 ≤ nc) {x0 : Nat} {x1 : Int32} {x2 : Int32} {x3 : Int32} (Kx0_0 : tf_K x0 = 4) (q : (vp_in ((h.1 x0 0) - (h.1 x0 0) / 12 * 12) 12) ∧ (vp_in ((h.1 x0 0) - (h.1 x0 0) / 12 * 12) 12) ∧ (vp_in ((h.1 x0 0) - (h.1 x0 0) / 12 * 12) 12) ∧ (x3 = (0 : Int32) → lx_X5_count nc C Q 57 [.ref (x0), .int (x1), .int (x2), .int (x3), .int ((h.1 x0 0) - (h.1 x0 0) / 12 * 12)] [] (tf_up (tf_up (tf_up (tf_up (tf_up h.1 (x0 + 1) ((h.1 x0 0) - (h.1 x0 0) / 12 * 12 : Int32).toNatClampNeg x1) (x0 + 2) ((h.1 x0 0) - (h.1 x0 0) / 12 * 12 : Int32).toNatClampNeg x2) (x0 + 3) ((h.1 x0 0) - (h.1 x0 0) / 12 * 12 : Int32).toNatClampNeg x3) x0 0 (((tf_up (tf_up (tf_up h.1 (x0 + 1) ((h.1 x0 0) - (h.1 x0 0) / 12 * 12 : Int32).toNatClampNeg x1) (x0 + 2) ((h.1 x0 0) - (h.1 x0 0) / 12 * 12 : Int32).toNatClampNeg x2) (x0 + 3) ((h.1 x0 0) - (h.1 x0 0) / 12 * 12 : Int32).toNatClampNeg x3) x0 0) + 1)) x0 1 (((tf_up (tf_up (tf_up (tf_up h.1 (x0 + 1) ((h.1 x0 0) - (h.1 x0 0) / 12 * 12 : Int32).toNatClampNeg x1) (x0 + 2) ((h.1 x0 0) - (h.1 x0 0) / 12 * 12 : Int32).toNatClampNeg x2) (x0 + 3) ((h.1 x0 0) - (h.1 x0 0) / 12 * 12 : Int32).toNatClampNeg x3) x0 0 (((tf_up (tf_up (tf_up h.1 (x0 + 1) ((h.1 x0 0) - (h.1 x0 0) / 12 * 12 : Int32).toNatClampNeg x1) (x0 + 2) ((h.1 x0 0) - (h.1 x0 0) / 12 * 12 : Int32).toNatClampNeg x2) (x0 + 3) ((h.1 x0 0) - (h.1 x0 0) / 12 * 12 : Int32).toNatClampNeg x3) x0 0) + 1)) x0 1) + 1), h.2)) ∧ (¬ x3 = (0 : Int32) → lx_X5_count nc C Q 57 [.ref (x0), .int (x1), .int (x2), .int (x3), .int ((h.1 x0 0) - (h.1 x0 0) / 12 * 12)] [] (tf_up (tf_up (tf_up (tf_up h.1 (x0 + 1) ((h.1 x0 0) - (h.1 x0 0) / 12 * 12 : Int32).toNatClampNeg x1) (x0 + 2) ((h.1 x0 0) - (h.1 x0 0) / 12 * 12 : Int32).toNatClampNeg x2) (x0 + 3) ((h.1 x0 0) - (h.1 x0 0) / 12 * 12 : Int32).toNatClampNeg x3) x0 0 (((tf_up (tf_up (tf_up h.1 (x0 + 1) ((h.1 x0 0) - (h.1 x0 0) / 12 * 12 : Int32).toNatClampNeg x1) (x0 + 2) ((h.1 x0 0) - (h.1 x0 0) / 12 * 12 : Int32).toNatClampNeg x2) (x0 + 3) ((h.1 x0 0) - (h.1 x0 0) / 12 * 12 : Int32).toNatClampNeg x3) x0 0) + 1), h.2))) : lx_X5_count nc C Q 0 [.ref (x0), .int (x1), .int (x2), .int (x3), tf_z] [] h := by
  obtain ⟨Bx0, ⟨Kx0_1, Kx0_2, Kx0_3⟩, ⟨Nx0_1, Nx0_2, Nx0_3⟩⟩ := tn_tally Kx0_0
  refine tf_LW_go ?_
  show (tf_K x0 = 4 ∧ x0 < nc) ∧ (¬ 12 = (0 : Int32)) ∧ (tf_K x0 = 4 ∧ x0 < nc) ∧ (tf_K (tf_R x0 4) = 8 ∧ (tf_R x0 4) < nc ∧ vp_in ((h.1 x0 0) - (h.1 x0 0) / 12 * 12) (tf_N (tf_R x0 4))) ∧ (tf_K x0 = 4 ∧ x0 < nc) ∧ (tf_K (tf_R x0 5) = 8 ∧ (tf_R x0 5) < nc ∧ vp_in ((h.1 x0 0) - (h.1 x0 0) / 12 * 12) (tf_N (tf_R x0 5))) ∧ (tf_K x0 = 4 ∧ x0 < nc) ∧ (tf_K (tf_R x0 6) = 8 ∧ (tf_R x0 6) < nc ∧ vp_in ((h.1 x0 0) - (h.1 x0 0) / 12 * 12) (tf_N (tf_R x0 6))) ∧ (tf_K x0 = 4 ∧ x0 < nc) ∧ (tf_K x0 = 4 ∧ x0 < nc ∧ tf_S 4 0 = 0) ∧ (x3 = (0 : Int32) → (tf_K x0 = 4 ∧ x0 < nc) ∧ (tf_K x0 = 4 ∧ x0 < nc ∧ tf_S 4 1 = 0) ∧ lx_X5_count nc C Q 57 [.ref (x0), .int (x1), .int (x2), .int (x3), .int ((h.1 x0 0) - (h.1 x0 0) / 12 * 12)] [] (tf_up (tf_up (tf_up (tf_up (tf_up h.1 (tf_R x0 4) ((h.1 x0 0) - (h.1 x0 0) / 12 * 12 : Int32).toNatClampNeg x1) (tf_R x0 5) ((h.1 x0 0) - (h.1 x0 0) / 12 * 12 : Int32).toNatClampNeg x2) (tf_R x0 6) ((h.1 x0 0) - (h.1 x0 0) / 12 * 12 : Int32).toNatClampNeg x3) x0 0 (((tf_up (tf_up (tf_up h.1 (tf_R x0 4) ((h.1 x0 0) - (h.1 x0 0) / 12 * 12 : Int32).toNatClampNeg x1) (tf_R x0 5) ((h.1 x0 0) - (h.1 x0 0) / 12 * 12 : Int32).toNatClampNeg x2) (tf_R x0 6) ((h.1 x0 0) - (h.1 x0 0) / 12 * 12 : Int32).toNatClampNeg x3) x0 0) + 1)) x0 1 (((tf_up (tf_up (tf_up (tf_up h.1 (tf_R x0 4) ((h.1 x0 0) - (h.1 x0 0) / 12 * 12 : Int32).toNatClampNeg x1) (tf_R x0 5) ((h.1 x0 0) - (h.1 x0 0) / 12 * 12 : Int32).toNatClampNeg x2) (tf_R x0 6) ((h.1 x0 0) - (h.1 x0 0) / 12 * 12 : Int32).toNatClampNeg x3) x0 0 (((tf_up (tf_up (tf_up h.1 (tf_R x0 4) ((h.1 x0 0) - (h.1 x0 0) / 12 * 12 : Int32).toNatClampNeg x1) (tf_R x0 5) ((h.1 x0 0) - (h.1 x0 0) / 12 * 12 : Int32).toNatClampNeg x2) (tf_R x0 6) ((h.1 x0 0) - (h.1 x0 0) / 12 * 12 : Int32).toNatClampNeg x3) x0 0) + 1)) x0 1) + 1), h.2)) ∧ (¬ x3 = (0 : Int32) → lx_X5_count nc C Q 57 [.ref (x0), .int (x1), .int (x2), .int (x3), .int ((h.1 x0 0) - (h.1 x0 0) / 12 * 12)] [] (tf_up (tf_up (tf_up (tf_up h.1 (tf_R x0 4) ((h.1 x0 0) - (h.1 x0 0) / 12 * 12 : Int32).toNatClampNeg x1) (tf_R x0 5) ((h.1 x0 0) - (h.1 x0 0) / 12 * 12 : Int32).toNatClampNeg x2) (tf_R x0 6) ((h.1 x0 0) - (h.1 x0 0) / 12 * 12 : Int32).toNatClampNeg x3) x0 0 (((tf_up (tf_up (tf_up h.1 (tf_R x0 4) ((h.1 x0 0) - (h.1 x0 0) / 12 * 12 : Int32).toNatClampNeg x1) (tf_R x0 5) ((h.1 x0 0) - (h.1 x0 0) / 12 * 12 : Int32).toNatClampNeg x2) (tf_R x0 6) ((h.1 x0 0) - (h.1 x0 0) / 12 * 12 : Int32).toNatClampNeg x3) x0 0) + 1), h.2))
  try simp only [(show tf_R x0 4 = x0 + 1 by rw [tn_R4 Kx0_0]; try omega), (show tf_R x0 5 = x0 + 2 by rw [tn_R4 Kx0_0]; try omega), (show tf_R x0 6 = x0 + 3 by rw [tn_R4 Kx0_0]; try omega), Nx0_1, Nx0_2, Nx0_3]
  exact ⟨⟨Kx0_0, (show x0 < nc by omega)⟩, ⟨(by decide), ⟨⟨Kx0_0, (show x0 < nc by omega)⟩, ⟨⟨Kx0_1, (show x0 + 1 < nc by omega), q.1⟩, ⟨⟨Kx0_0, (show x0 < nc by omega)⟩, ⟨⟨Kx0_2, (show x0 + 2 < nc by omega), q.2.1⟩, ⟨⟨Kx0_0, (show x0 < nc by omega)⟩, ⟨⟨Kx0_3, (show x0 + 3 < nc by omega), q.2.2.1⟩, ⟨⟨Kx0_0, (show x0 < nc by omega)⟩, ⟨⟨Kx0_0, (show x0 < nc by omega), (by first | rfl | trivial)⟩, ⟨fun c1 => ⟨⟨Kx0_0, (show x0 < nc by omega)⟩, ⟨⟨Kx0_0, (show x0 < nc by omega), (by first | rfl | trivial)⟩, (q.2.2.2.1 c1)⟩⟩, q.2.2.2.2⟩⟩⟩⟩⟩⟩⟩⟩⟩⟩⟩
theorem en_X5_count {nc d : Nat} {Q : tf_Q} {h : LH} (hn : 270 ≤ nc) {x0 : Nat} {x1 : Int32} {x2 : Int32} {x3 : Int32} (Kx0_0 : tf_K x0 = 4) (q : lx_X5_count nc (tf_Cd nc d) Q 0 [.ref (x0), .int (x1), .int (x2), .int (x3), tf_z] [] h) : tf_Cd nc (d + 1) 172 [.ref (x0), .int (x1), .int (x2), .int (x3)] h Q := by
  obtain ⟨Bx0, ⟨Kx0_1, Kx0_2, Kx0_3⟩, ⟨Nx0_1, Nx0_2, Nx0_3⟩⟩ := tn_tally Kx0_0
  exact ⟨⟨Nat.le_of_ble_eq_true rfl, Or.inr ⟨Kx0_0, (show x0 < nc by omega)⟩⟩, q⟩
set_option maxRecDepth 100000 in
theorem go_X5_count_57 {nc : Nat} {C : tf_C} {Q : tf_Q} {h : LH} (hn : 270 ≤ nc) {x0 : Nat} {x1 : Int32} {x2 : Int32} {x3 : Int32} {x4 : Int32} (Kx0_0 : tf_K x0 = 4) (q : Q tf_z (tf_up h.1 x0 3 x1, h.2)) : lx_X5_count nc C Q 57 [.ref (x0), .int (x1), .int (x2), .int (x3), .int (x4)] [] h := by
  obtain ⟨Bx0, ⟨Kx0_1, Kx0_2, Kx0_3⟩, ⟨Nx0_1, Nx0_2, Nx0_3⟩⟩ := tn_tally Kx0_0
  refine tf_LW_go ?_
  exact ⟨⟨Kx0_0, (show x0 < nc by omega), (by first | rfl | trivial)⟩, ⟨(by first | rfl | trivial), q⟩⟩
abbrev lx_X5_told (nc : Nat) (C : tf_C) (Q : tf_Q) : tf_X := tf_LW nc C (tf_F 4) (tf_M 4) (tf_I 4) (tf_Eh 173) 1 tb_X5_told Q
set_option maxRecDepth 100000 in
theorem go_X5_told_0 {nc : Nat} {C : tf_C} {Q : tf_Q} {h : LH} (hn : 270 ≤ nc) {x0 : Nat} {x1 : Int32} {x2 : Int32} (Kx0_0 : tf_K x0 = 4) (q : (x1 < (0 : Int32) → lx_X5_told nc C Q 18 [.ref (x0), .int (x1), .int (x2), tf_z] [] h) ∧ (¬ x1 < (0 : Int32) → ((12 : Int32) ≤ x1 → lx_X5_told nc C Q 18 [.ref (x0), .int (x1), .int (x2), tf_z] [] h) ∧ (¬ (12 : Int32) ≤ x1 → (x1 < (h.1 x0 0) → lx_X5_told nc C Q 20 [.ref (x0), .int (x1), .int (x2), tf_z] [] h) ∧ (¬ x1 < (h.1 x0 0) → lx_X5_told nc C Q 18 [.ref (x0), .int (x1), .int (x2), tf_z] [] h)))) : lx_X5_told nc C Q 0 [.ref (x0), .int (x1), .int (x2), tf_z] [] h := by
  obtain ⟨Bx0, ⟨Kx0_1, Kx0_2, Kx0_3⟩, ⟨Nx0_1, Nx0_2, Nx0_3⟩⟩ := tn_tally Kx0_0
  refine tf_LW_go ?_
  exact ⟨q.1, fun c3 => ⟨(q.2 c3).1, fun c2 => ⟨⟨Kx0_0, (show x0 < nc by omega)⟩, ⟨((q.2 c3).2 c2).1, fun c1 => (((q.2 c3).2 c2).2 c1)⟩⟩⟩⟩
theorem en_X5_told {nc d : Nat} {Q : tf_Q} {h : LH} (hn : 270 ≤ nc) {x0 : Nat} {x1 : Int32} {x2 : Int32} (Kx0_0 : tf_K x0 = 4) (q : lx_X5_told nc (tf_Cd nc d) Q 0 [.ref (x0), .int (x1), .int (x2), tf_z] [] h) : tf_Cd nc (d + 1) 173 [.ref (x0), .int (x1), .int (x2)] h Q := by
  obtain ⟨Bx0, ⟨Kx0_1, Kx0_2, Kx0_3⟩, ⟨Nx0_1, Nx0_2, Nx0_3⟩⟩ := tn_tally Kx0_0
  exact ⟨⟨Nat.le_of_ble_eq_true rfl, Or.inr ⟨Kx0_0, (show x0 < nc by omega)⟩⟩, q⟩
set_option maxRecDepth 100000 in
theorem go_X5_told_18 {nc : Nat} {C : tf_C} {Q : tf_Q} {h : LH} (hn : 270 ≤ nc) {x0 : Nat} {x1 : Int32} {x2 : Int32} (Kx0_0 : tf_K x0 = 4) (q : Q (.int ((-1))) h) : lx_X5_told nc C Q 18 [.ref (x0), .int (x1), .int (x2), tf_z] [] h := by
  obtain ⟨Bx0, ⟨Kx0_1, Kx0_2, Kx0_3⟩, ⟨Nx0_1, Nx0_2, Nx0_3⟩⟩ := tn_tally Kx0_0
  refine tf_LW_go ?_
  exact ⟨(by first | trivial | rfl), q⟩
set_option maxRecDepth 100000 in
theorem go_X5_told_20 {nc : Nat} {C : tf_C} {Q : tf_Q} {h : LH} (hn : 270 ≤ nc) {x0 : Nat} {x1 : Int32} {x2 : Int32} (Kx0_0 : tf_K x0 = 4) (q : (((x2 : Int32).toInt < 0 ∨ 2 < (x2 : Int32).toInt) → lx_X5_told nc C Q 84 [.ref (x0), .int (x1), .int (x2), .int ((((h.1 x0 0) - 1) - x1) - (((h.1 x0 0) - 1) - x1) / 12 * 12)] [] h) ∧ ((x2 : Int32).toInt = 0 → lx_X5_told nc C Q 60 [.ref (x0), .int (x1), .int (x2), .int ((((h.1 x0 0) - 1) - x1) - (((h.1 x0 0) - 1) - x1) / 12 * 12)] [] h) ∧ ((x2 : Int32).toInt = 1 → lx_X5_told nc C Q 67 [.ref (x0), .int (x1), .int (x2), .int ((((h.1 x0 0) - 1) - x1) - (((h.1 x0 0) - 1) - x1) / 12 * 12)] [] h) ∧ ((x2 : Int32).toInt = 2 → lx_X5_told nc C Q 77 [.ref (x0), .int (x1), .int (x2), .int ((((h.1 x0 0) - 1) - x1) - (((h.1 x0 0) - 1) - x1) / 12 * 12)] [] h) ∧ True) : lx_X5_told nc C Q 20 [.ref (x0), .int (x1), .int (x2), tf_z] [] h := by
  obtain ⟨Bx0, ⟨Kx0_1, Kx0_2, Kx0_3⟩, ⟨Nx0_1, Nx0_2, Nx0_3⟩⟩ := tn_tally Kx0_0
  refine tf_LW_go ?_
  exact ⟨⟨Kx0_0, (show x0 < nc by omega)⟩, ⟨(by decide), q⟩⟩
set_option maxRecDepth 100000 in
theorem go_X5_told_60 {nc : Nat} {C : tf_C} {Q : tf_Q} {h : LH} (hn : 270 ≤ nc) {x0 : Nat} {x1 : Int32} {x2 : Int32} {x3 : Int32} (Kx0_0 : tf_K x0 = 4) (q : (vp_in x3 12) ∧ Q (.int (h.1 (x0 + 1) (x3 : Int32).toNatClampNeg)) h) : lx_X5_told nc C Q 60 [.ref (x0), .int (x1), .int (x2), .int (x3)] [] h := by
  obtain ⟨Bx0, ⟨Kx0_1, Kx0_2, Kx0_3⟩, ⟨Nx0_1, Nx0_2, Nx0_3⟩⟩ := tn_tally Kx0_0
  refine tf_LW_go ?_
  show (tf_K x0 = 4 ∧ x0 < nc) ∧ (tf_K (tf_R x0 4) = 8 ∧ (tf_R x0 4) < nc ∧ vp_in x3 (tf_N (tf_R x0 4))) ∧ tf_rb 1 (h.1 (tf_R x0 4) (x3 : Int32).toNatClampNeg) ∧ Q (.int (h.1 (tf_R x0 4) (x3 : Int32).toNatClampNeg)) h
  try simp only [(show tf_R x0 4 = x0 + 1 by rw [tn_R4 Kx0_0]; try omega), Nx0_1]
  exact ⟨⟨Kx0_0, (show x0 < nc by omega)⟩, ⟨⟨Kx0_1, (show x0 + 1 < nc by omega), q.1⟩, ⟨(by first | trivial | rfl), q.2⟩⟩⟩
set_option maxRecDepth 100000 in
theorem go_X5_told_67 {nc : Nat} {C : tf_C} {Q : tf_Q} {h : LH} (hn : 270 ≤ nc) {x0 : Nat} {x1 : Int32} {x2 : Int32} {x3 : Int32} (Kx0_0 : tf_K x0 = 4) (q : (vp_in x3 12) ∧ C 220 [.int (h.1 (x0 + 2) (x3 : Int32).toNatClampNeg)] h (fun r g => lx_X5_told nc C Q 76 [.ref (x0), .int (x1), .int (x2), .int (x3)] (r :: []) g)) : lx_X5_told nc C Q 67 [.ref (x0), .int (x1), .int (x2), .int (x3)] [] h := by
  obtain ⟨Bx0, ⟨Kx0_1, Kx0_2, Kx0_3⟩, ⟨Nx0_1, Nx0_2, Nx0_3⟩⟩ := tn_tally Kx0_0
  refine tf_LW_go ?_
  show (tf_K x0 = 4 ∧ x0 < nc) ∧ (tf_K (tf_R x0 5) = 8 ∧ (tf_R x0 5) < nc ∧ vp_in x3 (tf_N (tf_R x0 5))) ∧ 1 ≤ 1 ∧ 0 ≤ 8 ∧ C 220 [.int (h.1 (tf_R x0 5) (x3 : Int32).toNatClampNeg)] h (fun r g => lx_X5_told nc C Q 76 [.ref (x0), .int (x1), .int (x2), .int (x3)] (r :: []) g)
  try simp only [(show tf_R x0 5 = x0 + 2 by rw [tn_R4 Kx0_0]; try omega), Nx0_2]
  exact ⟨⟨Kx0_0, (show x0 < nc by omega)⟩, ⟨⟨Kx0_2, (show x0 + 2 < nc by omega), q.1⟩, ⟨Nat.le_of_ble_eq_true rfl, Nat.le_of_ble_eq_true rfl, q.2⟩⟩⟩
set_option maxRecDepth 100000 in
theorem go_X5_told_76 {nc : Nat} {C : tf_C} {Q : tf_Q} {h : LH} (hn : 270 ≤ nc) {x0 : Nat} {x1 : Int32} {x2 : Int32} {x3 : Int32} {y0 : Int32} (Kx0_0 : tf_K x0 = 4) (q : Q (.int (y0)) h) : lx_X5_told nc C Q 76 [.ref (x0), .int (x1), .int (x2), .int (x3)] [.int (y0)] h := by
  obtain ⟨Bx0, ⟨Kx0_1, Kx0_2, Kx0_3⟩, ⟨Nx0_1, Nx0_2, Nx0_3⟩⟩ := tn_tally Kx0_0
  refine tf_LW_go ?_
  exact ⟨(by first | trivial | rfl), q⟩
set_option maxRecDepth 100000 in
theorem go_X5_told_77 {nc : Nat} {C : tf_C} {Q : tf_Q} {h : LH} (hn : 270 ≤ nc) {x0 : Nat} {x1 : Int32} {x2 : Int32} {x3 : Int32} (Kx0_0 : tf_K x0 = 4) (q : (vp_in x3 12) ∧ Q (.int (h.1 (x0 + 3) (x3 : Int32).toNatClampNeg)) h) : lx_X5_told nc C Q 77 [.ref (x0), .int (x1), .int (x2), .int (x3)] [] h := by
  obtain ⟨Bx0, ⟨Kx0_1, Kx0_2, Kx0_3⟩, ⟨Nx0_1, Nx0_2, Nx0_3⟩⟩ := tn_tally Kx0_0
  refine tf_LW_go ?_
  show (tf_K x0 = 4 ∧ x0 < nc) ∧ (tf_K (tf_R x0 6) = 8 ∧ (tf_R x0 6) < nc ∧ vp_in x3 (tf_N (tf_R x0 6))) ∧ tf_rb 1 (h.1 (tf_R x0 6) (x3 : Int32).toNatClampNeg) ∧ Q (.int (h.1 (tf_R x0 6) (x3 : Int32).toNatClampNeg)) h
  try simp only [(show tf_R x0 6 = x0 + 3 by rw [tn_R4 Kx0_0]; try omega), Nx0_3]
  exact ⟨⟨Kx0_0, (show x0 < nc by omega)⟩, ⟨⟨Kx0_3, (show x0 + 3 < nc by omega), q.1⟩, ⟨(by first | trivial | rfl), q.2⟩⟩⟩
set_option maxRecDepth 100000 in
theorem go_X5_told_84 {nc : Nat} {C : tf_C} {Q : tf_Q} {h : LH} (hn : 270 ≤ nc) {x0 : Nat} {x1 : Int32} {x2 : Int32} {x3 : Int32} (Kx0_0 : tf_K x0 = 4) (q : Q (.int ((-1))) h) : lx_X5_told nc C Q 84 [.ref (x0), .int (x1), .int (x2), .int (x3)] [] h := by
  obtain ⟨Bx0, ⟨Kx0_1, Kx0_2, Kx0_3⟩, ⟨Nx0_1, Nx0_2, Nx0_3⟩⟩ := tn_tally Kx0_0
  refine tf_LW_go ?_
  exact ⟨(by first | trivial | rfl), q⟩
