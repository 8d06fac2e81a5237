/-! ===== arc and point of the class, block by block ===== -/
abbrev lxE_arc (QX : LH → Prop) (Q : tf_Q) : tf_X := tf_LW 298 (tf_Cd 298 6) (tf_F 6) (tf_M 6) (tf_I 6) (xt_E xt_p_arc QX) 1 tb_X8_arc Q
set_option maxRecDepth 100000 in
theorem goE_arc_0 {QX : LH → Prop} {Q : tf_Q} {h : LH} {x1 x2 : Int32} (q : tf_Cd 298 6 119 [.ref (0), .int (x1)] h (fun r g => lxE_arc QX Q 8 [.ref (240), .int (x1), .int (x2)] (r :: []) g)) : lxE_arc QX Q 0 [.ref (240), .int (x1), .int (x2)] [] h := by
  have hn : 298 ≤ 298 := Nat.le_refl _
  refine tf_LW_go ?_
  exact ⟨⟨(by first | rfl | trivial), (by decide)⟩, ⟨Nat.le_of_ble_eq_true rfl, Nat.le_of_ble_eq_true rfl, q⟩⟩
set_option maxRecDepth 100000 in
theorem goE_arc_8 {QX : LH → Prop} {Q : tf_Q} {h : LH} {x1 x2 : Int32} {y0 : Int32} (q : (y0 = (0 : Int32) → QX h) ∧ (¬ y0 = (0 : Int32) → lxE_arc QX Q 19 [.ref (240), .int (x1), .int (x2)] [] h)) : lxE_arc QX Q 8 [.ref (240), .int (x1), .int (x2)] [.int (y0)] h := by
  have hn : 298 ≤ 298 := Nat.le_refl _
  refine tf_LW_go ?_
  exact ⟨fun c1 => ⟨rfl, (q.1 c1)⟩, q.2⟩
set_option maxRecDepth 100000 in
theorem goE_arc_19 {QX : LH → Prop} {Q : tf_Q} {h : LH} {x1 x2 : Int32} (q : (((x2 : Int32).toInt < 0 ∨ 7 < (x2 : Int32).toInt) → lxE_arc QX Q 154 [.ref (240), .int (x1), .int (x2)] [] h) ∧ ((x2 : Int32).toInt = 0 → lxE_arc QX Q 68 [.ref (240), .int (x1), .int (x2)] [] h) ∧ ((x2 : Int32).toInt = 1 → lxE_arc QX Q 78 [.ref (240), .int (x1), .int (x2)] [] h) ∧ ((x2 : Int32).toInt = 2 → lxE_arc QX Q 88 [.ref (240), .int (x1), .int (x2)] [] h) ∧ ((x2 : Int32).toInt = 3 → lxE_arc QX Q 98 [.ref (240), .int (x1), .int (x2)] [] h) ∧ ((x2 : Int32).toInt = 4 → lxE_arc QX Q 108 [.ref (240), .int (x1), .int (x2)] [] h) ∧ ((x2 : Int32).toInt = 5 → lxE_arc QX Q 118 [.ref (240), .int (x1), .int (x2)] [] h) ∧ ((x2 : Int32).toInt = 6 → lxE_arc QX Q 128 [.ref (240), .int (x1), .int (x2)] [] h) ∧ ((x2 : Int32).toInt = 7 → lxE_arc QX Q 137 [.ref (240), .int (x1), .int (x2)] [] h) ∧ True) : lxE_arc QX Q 19 [.ref (240), .int (x1), .int (x2)] [] h := by
  have hn : 298 ≤ 298 := Nat.le_refl _
  refine tf_LW_go ?_
  exact q
set_option maxRecDepth 100000 in
theorem goE_arc_68 {QX : LH → Prop} {Q : tf_Q} {h : LH} {x1 x2 : Int32} (q : (vp_in x1 21) ∧ Q (.int (h.1 2 (x1 : Int32).toNatClampNeg)) h) : lxE_arc QX Q 68 [.ref (240), .int (x1), .int (x2)] [] h := by
  have hn : 298 ≤ 298 := Nat.le_refl _
  refine tf_LW_go ?_
  exact ⟨⟨(by first | rfl | trivial), (by decide)⟩, ⟨⟨(by first | rfl | trivial), (by decide)⟩, ⟨⟨(by first | rfl | trivial), (by decide), q.1⟩, ⟨(by first | trivial | rfl), q.2⟩⟩⟩⟩
set_option maxRecDepth 100000 in
theorem goE_arc_78 {QX : LH → Prop} {Q : tf_Q} {h : LH} {x1 x2 : Int32} (q : (vp_in x1 21) ∧ Q (.int (h.1 3 (x1 : Int32).toNatClampNeg)) h) : lxE_arc QX Q 78 [.ref (240), .int (x1), .int (x2)] [] h := by
  have hn : 298 ≤ 298 := Nat.le_refl _
  refine tf_LW_go ?_
  exact ⟨⟨(by first | rfl | trivial), (by decide)⟩, ⟨⟨(by first | rfl | trivial), (by decide)⟩, ⟨⟨(by first | rfl | trivial), (by decide), q.1⟩, ⟨(by first | trivial | rfl), q.2⟩⟩⟩⟩
set_option maxRecDepth 100000 in
theorem goE_arc_88 {QX : LH → Prop} {Q : tf_Q} {h : LH} {x1 x2 : Int32} (q : (vp_in x1 21) ∧ Q (.int (h.1 4 (x1 : Int32).toNatClampNeg)) h) : lxE_arc QX Q 88 [.ref (240), .int (x1), .int (x2)] [] h := by
  have hn : 298 ≤ 298 := Nat.le_refl _
  refine tf_LW_go ?_
  exact ⟨⟨(by first | rfl | trivial), (by decide)⟩, ⟨⟨(by first | rfl | trivial), (by decide)⟩, ⟨⟨(by first | rfl | trivial), (by decide), q.1⟩, ⟨(by first | trivial | rfl), q.2⟩⟩⟩⟩
set_option maxRecDepth 100000 in
theorem goE_arc_98 {QX : LH → Prop} {Q : tf_Q} {h : LH} {x1 x2 : Int32} (q : (vp_in x1 21) ∧ Q (.int (h.1 5 (x1 : Int32).toNatClampNeg)) h) : lxE_arc QX Q 98 [.ref (240), .int (x1), .int (x2)] [] h := by
  have hn : 298 ≤ 298 := Nat.le_refl _
  refine tf_LW_go ?_
  exact ⟨⟨(by first | rfl | trivial), (by decide)⟩, ⟨⟨(by first | rfl | trivial), (by decide)⟩, ⟨⟨(by first | rfl | trivial), (by decide), q.1⟩, ⟨(by first | trivial | rfl), q.2⟩⟩⟩⟩
set_option maxRecDepth 100000 in
theorem goE_arc_108 {QX : LH → Prop} {Q : tf_Q} {h : LH} {x1 x2 : Int32} (q : (vp_in x1 21) ∧ Q (.int (h.1 6 (x1 : Int32).toNatClampNeg)) h) : lxE_arc QX Q 108 [.ref (240), .int (x1), .int (x2)] [] h := by
  have hn : 298 ≤ 298 := Nat.le_refl _
  refine tf_LW_go ?_
  exact ⟨⟨(by first | rfl | trivial), (by decide)⟩, ⟨⟨(by first | rfl | trivial), (by decide)⟩, ⟨⟨(by first | rfl | trivial), (by decide), q.1⟩, ⟨(by first | trivial | rfl), q.2⟩⟩⟩⟩
set_option maxRecDepth 100000 in
theorem goE_arc_118 {QX : LH → Prop} {Q : tf_Q} {h : LH} {x1 x2 : Int32} (q : (vp_in x1 21) ∧ Q (.int (h.1 7 (x1 : Int32).toNatClampNeg)) h) : lxE_arc QX Q 118 [.ref (240), .int (x1), .int (x2)] [] h := by
  have hn : 298 ≤ 298 := Nat.le_refl _
  refine tf_LW_go ?_
  exact ⟨⟨(by first | rfl | trivial), (by decide)⟩, ⟨⟨(by first | rfl | trivial), (by decide)⟩, ⟨⟨(by first | rfl | trivial), (by decide), q.1⟩, ⟨(by first | trivial | rfl), q.2⟩⟩⟩⟩
set_option maxRecDepth 100000 in
theorem goE_arc_128 {QX : LH → Prop} {Q : tf_Q} {h : LH} {x1 x2 : Int32} (q : tf_Cd 298 6 131 [.ref (0), .int (x1)] h (fun r g => lxE_arc QX Q 136 [.ref (240), .int (x1), .int (x2)] (r :: []) g)) : lxE_arc QX Q 128 [.ref (240), .int (x1), .int (x2)] [] h := by
  have hn : 298 ≤ 298 := Nat.le_refl _
  refine tf_LW_go ?_
  exact ⟨⟨(by first | rfl | trivial), (by decide)⟩, ⟨Nat.le_of_ble_eq_true rfl, Nat.le_of_ble_eq_true rfl, q⟩⟩
set_option maxRecDepth 100000 in
theorem goE_arc_136 {QX : LH → Prop} {Q : tf_Q} {h : LH} {x1 x2 : Int32} {y0 : Int32} (q : Q (.int (y0)) h) : lxE_arc QX Q 136 [.ref (240), .int (x1), .int (x2)] [.int (y0)] h := by
  have hn : 298 ≤ 298 := Nat.le_refl _
  refine tf_LW_go ?_
  exact ⟨(by first | trivial | rfl), q⟩
set_option maxRecDepth 100000 in
theorem goE_arc_137 {QX : LH → Prop} {Q : tf_Q} {h : LH} {x1 x2 : Int32} (q : tf_Cd 298 6 133 [.ref (0), .int (x1)] h (fun r g => lxE_arc QX Q 145 [.ref (240), .int (x1), .int (x2)] (r :: []) g)) : lxE_arc QX Q 137 [.ref (240), .int (x1), .int (x2)] [] h := by
  have hn : 298 ≤ 298 := Nat.le_refl _
  refine tf_LW_go ?_
  exact ⟨⟨(by first | rfl | trivial), (by decide)⟩, ⟨Nat.le_of_ble_eq_true rfl, Nat.le_of_ble_eq_true rfl, q⟩⟩
set_option maxRecDepth 100000 in
theorem goE_arc_145 {QX : LH → Prop} {Q : tf_Q} {h : LH} {x1 x2 : Int32} {y0 : Int32} (q : (y0 ≤ (0 : Int32) → lxE_arc QX Q 152 [.ref (240), .int (x1), .int (x2)] [] h) ∧ (¬ y0 ≤ (0 : Int32) → lxE_arc QX Q 153 [.ref (240), .int (x1), .int (x2)] [.int (1)] h)) : lxE_arc QX Q 145 [.ref (240), .int (x1), .int (x2)] [.int (y0)] h := by
  have hn : 298 ≤ 298 := Nat.le_refl _
  refine tf_LW_go ?_
  exact ⟨q.1, fun c1 => (q.2 c1)⟩
set_option maxRecDepth 100000 in
theorem goE_arc_152 {QX : LH → Prop} {Q : tf_Q} {h : LH} {x1 x2 : Int32} (q : lxE_arc QX Q 153 [.ref (240), .int (x1), .int (x2)] [.int (0)] h) : lxE_arc QX Q 152 [.ref (240), .int (x1), .int (x2)] [] h := by
  have hn : 298 ≤ 298 := Nat.le_refl _
  refine tf_LW_go ?_
  exact q
set_option maxRecDepth 100000 in
theorem goE_arc_153 {QX : LH → Prop} {Q : tf_Q} {h : LH} {x1 x2 : Int32} {y0 : Int32} (q : Q (.int (y0)) h) : lxE_arc QX Q 153 [.ref (240), .int (x1), .int (x2)] [.int (y0)] h := by
  have hn : 298 ≤ 298 := Nat.le_refl _
  refine tf_LW_go ?_
  exact ⟨(by first | trivial | rfl), q⟩
set_option maxRecDepth 100000 in
theorem goE_arc_154 {QX : LH → Prop} {Q : tf_Q} {h : LH} {x1 x2 : Int32} (q : QX h) : lxE_arc QX Q 154 [.ref (240), .int (x1), .int (x2)] [] h := by
  have hn : 298 ≤ 298 := Nat.le_refl _
  refine tf_LW_go ?_
  exact ⟨rfl, q⟩
theorem enE_arc {QX : LH → Prop} {Q : tf_Q} {h : LH} {x1 x2 : Int32} (q : lxE_arc QX Q 0 [.ref 240, .int x1, .int x2] [] h) : xt_Cd tb_X8_arc xt_p_arc [.ref 240, .int x1, .int x2] h Q QX := ⟨⟨Nat.le_of_ble_eq_true rfl, Or.inr ⟨rfl, (by decide)⟩⟩, q⟩
abbrev lxE_point (QX : LH → Prop) (Q : tf_Q) : tf_X := tf_LW 298 (tf_Cd 298 6) (tf_F 6) (tf_M 6) (tf_I 6) (xt_E xt_p_point QX) 1 tb_X8_point Q
set_option maxRecDepth 100000 in
theorem goE_point_0 {QX : LH → Prop} {Q : tf_Q} {h : LH} {x1 x2 : Int32} (q : tf_Cd 298 6 120 [.ref (0), .int (x1)] h (fun r g => lxE_point QX Q 8 [.ref (240), .int (x1), .int (x2)] (r :: []) g)) : lxE_point QX Q 0 [.ref (240), .int (x1), .int (x2)] [] h := by
  have hn : 298 ≤ 298 := Nat.le_refl _
  refine tf_LW_go ?_
  exact ⟨⟨(by first | rfl | trivial), (by decide)⟩, ⟨Nat.le_of_ble_eq_true rfl, Nat.le_of_ble_eq_true rfl, q⟩⟩
set_option maxRecDepth 100000 in
theorem goE_point_8 {QX : LH → Prop} {Q : tf_Q} {h : LH} {x1 x2 : Int32} {y0 : Int32} (q : (y0 = (0 : Int32) → QX h) ∧ (¬ y0 = (0 : Int32) → lxE_point QX Q 19 [.ref (240), .int (x1), .int (x2)] [] h)) : lxE_point QX Q 8 [.ref (240), .int (x1), .int (x2)] [.int (y0)] h := by
  have hn : 298 ≤ 298 := Nat.le_refl _
  refine tf_LW_go ?_
  exact ⟨fun c1 => ⟨rfl, (q.1 c1)⟩, q.2⟩
set_option maxRecDepth 100000 in
theorem goE_point_19 {QX : LH → Prop} {Q : tf_Q} {h : LH} {x1 x2 : Int32} (q : (((x2 : Int32).toInt < 0 ∨ 6 < (x2 : Int32).toInt) → lxE_point QX Q 141 [.ref (240), .int (x1), .int (x2)] [] h) ∧ ((x2 : Int32).toInt = 0 → lxE_point QX Q 64 [.ref (240), .int (x1), .int (x2)] [] h) ∧ ((x2 : Int32).toInt = 1 → lxE_point QX Q 74 [.ref (240), .int (x1), .int (x2)] [] h) ∧ ((x2 : Int32).toInt = 2 → lxE_point QX Q 84 [.ref (240), .int (x1), .int (x2)] [] h) ∧ ((x2 : Int32).toInt = 3 → lxE_point QX Q 101 [.ref (240), .int (x1), .int (x2)] [] h) ∧ ((x2 : Int32).toInt = 4 → lxE_point QX Q 114 [.ref (240), .int (x1), .int (x2)] [] h) ∧ ((x2 : Int32).toInt = 5 → lxE_point QX Q 123 [.ref (240), .int (x1), .int (x2)] [] h) ∧ ((x2 : Int32).toInt = 6 → lxE_point QX Q 132 [.ref (240), .int (x1), .int (x2)] [] h) ∧ True) : lxE_point QX Q 19 [.ref (240), .int (x1), .int (x2)] [] h := by
  have hn : 298 ≤ 298 := Nat.le_refl _
  refine tf_LW_go ?_
  exact q
set_option maxRecDepth 100000 in
theorem goE_point_64 {QX : LH → Prop} {Q : tf_Q} {h : LH} {x1 x2 : Int32} (q : (vp_in x1 7) ∧ Q (.int (h.1 1 (x1 : Int32).toNatClampNeg)) h) : lxE_point QX Q 64 [.ref (240), .int (x1), .int (x2)] [] h := by
  have hn : 298 ≤ 298 := Nat.le_refl _
  refine tf_LW_go ?_
  exact ⟨⟨(by first | rfl | trivial), (by decide)⟩, ⟨⟨(by first | rfl | trivial), (by decide)⟩, ⟨⟨(by first | rfl | trivial), (by decide), q.1⟩, ⟨(by first | trivial | rfl), q.2⟩⟩⟩⟩
set_option maxRecDepth 100000 in
theorem goE_point_74 {QX : LH → Prop} {Q : tf_Q} {h : LH} {x1 x2 : Int32} (q : (vp_in x1 8) ∧ Q (.int (h.1 10 (x1 : Int32).toNatClampNeg)) h) : lxE_point QX Q 74 [.ref (240), .int (x1), .int (x2)] [] h := by
  have hn : 298 ≤ 298 := Nat.le_refl _
  refine tf_LW_go ?_
  exact ⟨⟨(by first | rfl | trivial), (by decide)⟩, ⟨⟨(by first | rfl | trivial), (by decide)⟩, ⟨⟨(by first | rfl | trivial), (by decide), q.1⟩, ⟨(by first | trivial | rfl), q.2⟩⟩⟩⟩
set_option maxRecDepth 100000 in
theorem goE_point_84 {QX : LH → Prop} {Q : tf_Q} {h : LH} {x1 x2 : Int32} (q : (vp_in x1 7) ∧ tf_Cd 298 6 122 [.ref (0), .int (h.1 8 (x1 : Int32).toNatClampNeg)] h (fun r g => lxE_point QX Q 100 [.ref (240), .int (x1), .int (x2)] (r :: []) g)) : lxE_point QX Q 84 [.ref (240), .int (x1), .int (x2)] [] h := by
  have hn : 298 ≤ 298 := Nat.le_refl _
  refine tf_LW_go ?_
  exact ⟨⟨(by first | rfl | trivial), (by decide)⟩, ⟨⟨(by first | rfl | trivial), (by decide)⟩, ⟨⟨(by first | rfl | trivial), (by decide)⟩, ⟨⟨(by first | rfl | trivial), (by decide), q.1⟩, ⟨Nat.le_of_ble_eq_true rfl, Nat.le_of_ble_eq_true rfl, q.2⟩⟩⟩⟩⟩
set_option maxRecDepth 100000 in
theorem goE_point_100 {QX : LH → Prop} {Q : tf_Q} {h : LH} {x1 x2 : Int32} {y0 : Int32} (q : Q (.int (y0)) h) : lxE_point QX Q 100 [.ref (240), .int (x1), .int (x2)] [.int (y0)] h := by
  have hn : 298 ≤ 298 := Nat.le_refl _
  refine tf_LW_go ?_
  exact ⟨(by first | trivial | rfl), q⟩
set_option maxRecDepth 100000 in
theorem goE_point_101 {QX : LH → Prop} {Q : tf_Q} {h : LH} {x1 x2 : Int32} (q : (vp_in x1 7) ∧ tf_Cd 298 6 220 [.int (h.1 9 (x1 : Int32).toNatClampNeg)] h (fun r g => lxE_point QX Q 113 [.ref (240), .int (x1), .int (x2)] (r :: []) g)) : lxE_point QX Q 101 [.ref (240), .int (x1), .int (x2)] [] h := by
  have hn : 298 ≤ 298 := Nat.le_refl _
  refine tf_LW_go ?_
  exact ⟨⟨(by first | rfl | trivial), (by decide)⟩, ⟨⟨(by first | rfl | trivial), (by decide)⟩, ⟨⟨(by first | rfl | trivial), (by decide), q.1⟩, ⟨Nat.le_of_ble_eq_true rfl, Nat.le_of_ble_eq_true rfl, q.2⟩⟩⟩⟩
set_option maxRecDepth 100000 in
theorem goE_point_113 {QX : LH → Prop} {Q : tf_Q} {h : LH} {x1 x2 : Int32} {y0 : Int32} (q : Q (.int (y0)) h) : lxE_point QX Q 113 [.ref (240), .int (x1), .int (x2)] [.int (y0)] h := by
  have hn : 298 ≤ 298 := Nat.le_refl _
  refine tf_LW_go ?_
  exact ⟨(by first | trivial | rfl), q⟩
set_option maxRecDepth 100000 in
theorem goE_point_114 {QX : LH → Prop} {Q : tf_Q} {h : LH} {x1 x2 : Int32} (q : tf_Cd 298 6 138 [.ref (0), .int (x1)] h (fun r g => lxE_point QX Q 122 [.ref (240), .int (x1), .int (x2)] (r :: []) g)) : lxE_point QX Q 114 [.ref (240), .int (x1), .int (x2)] [] h := by
  have hn : 298 ≤ 298 := Nat.le_refl _
  refine tf_LW_go ?_
  exact ⟨⟨(by first | rfl | trivial), (by decide)⟩, ⟨Nat.le_of_ble_eq_true rfl, Nat.le_of_ble_eq_true rfl, q⟩⟩
set_option maxRecDepth 100000 in
theorem goE_point_122 {QX : LH → Prop} {Q : tf_Q} {h : LH} {x1 x2 : Int32} {y0 : Int32} (q : Q (.int (y0)) h) : lxE_point QX Q 122 [.ref (240), .int (x1), .int (x2)] [.int (y0)] h := by
  have hn : 298 ≤ 298 := Nat.le_refl _
  refine tf_LW_go ?_
  exact ⟨(by first | trivial | rfl), q⟩
set_option maxRecDepth 100000 in
theorem goE_point_123 {QX : LH → Prop} {Q : tf_Q} {h : LH} {x1 x2 : Int32} (q : tf_Cd 298 6 139 [.ref (0), .int (x1)] h (fun r g => lxE_point QX Q 131 [.ref (240), .int (x1), .int (x2)] (r :: []) g)) : lxE_point QX Q 123 [.ref (240), .int (x1), .int (x2)] [] h := by
  have hn : 298 ≤ 298 := Nat.le_refl _
  refine tf_LW_go ?_
  exact ⟨⟨(by first | rfl | trivial), (by decide)⟩, ⟨Nat.le_of_ble_eq_true rfl, Nat.le_of_ble_eq_true rfl, q⟩⟩
set_option maxRecDepth 100000 in
theorem goE_point_131 {QX : LH → Prop} {Q : tf_Q} {h : LH} {x1 x2 : Int32} {y0 : Int32} (q : Q (.int (y0)) h) : lxE_point QX Q 131 [.ref (240), .int (x1), .int (x2)] [.int (y0)] h := by
  have hn : 298 ≤ 298 := Nat.le_refl _
  refine tf_LW_go ?_
  exact ⟨(by first | trivial | rfl), q⟩
set_option maxRecDepth 100000 in
theorem goE_point_132 {QX : LH → Prop} {Q : tf_Q} {h : LH} {x1 x2 : Int32} (q : tf_Cd 298 6 140 [.ref (0), .int (x1)] h (fun r g => lxE_point QX Q 140 [.ref (240), .int (x1), .int (x2)] (r :: []) g)) : lxE_point QX Q 132 [.ref (240), .int (x1), .int (x2)] [] h := by
  have hn : 298 ≤ 298 := Nat.le_refl _
  refine tf_LW_go ?_
  exact ⟨⟨(by first | rfl | trivial), (by decide)⟩, ⟨Nat.le_of_ble_eq_true rfl, Nat.le_of_ble_eq_true rfl, q⟩⟩
set_option maxRecDepth 100000 in
theorem goE_point_140 {QX : LH → Prop} {Q : tf_Q} {h : LH} {x1 x2 : Int32} {y0 : Int32} (q : Q (.int (y0)) h) : lxE_point QX Q 140 [.ref (240), .int (x1), .int (x2)] [.int (y0)] h := by
  have hn : 298 ≤ 298 := Nat.le_refl _
  refine tf_LW_go ?_
  exact ⟨(by first | trivial | rfl), q⟩
set_option maxRecDepth 100000 in
theorem goE_point_141 {QX : LH → Prop} {Q : tf_Q} {h : LH} {x1 x2 : Int32} (q : QX h) : lxE_point QX Q 141 [.ref (240), .int (x1), .int (x2)] [] h := by
  have hn : 298 ≤ 298 := Nat.le_refl _
  refine tf_LW_go ?_
  exact ⟨rfl, q⟩
theorem enE_point {QX : LH → Prop} {Q : tf_Q} {h : LH} {x1 x2 : Int32} (q : lxE_point QX Q 0 [.ref 240, .int x1, .int x2] [] h) : xt_Cd tb_X8_point xt_p_point [.ref 240, .int x1, .int x2] h Q QX := ⟨⟨Nat.le_of_ble_eq_true rfl, Or.inr ⟨rfl, (by decide)⟩⟩, q⟩
