/-! ===== calls on fresh objects, 1 ===== -/
set_option maxRecDepth 1000000 in
theorem pk_18 (x : Int32) : lk_two tk_h 198 [.ref 240, .int x] 81 [.ref 270, .int x] (fun _ => True) := p1_1 (P1 := p1_all) (by decide +kernel) x
set_option maxRecDepth 1000000 in
theorem pk_19 (x y : Int32) : lk_two tk_h 199 [.ref 240, .int x, .int y] 82 [.ref 270, .int x, .int y] (fun _ => True) := p1_2 (P1 := [(-2147483648, -1), (0, 11), (12, 2147483647)]) (P2 := (fun _ => p1_all)) (by decide +kernel) x y
set_option maxRecDepth 1000000 in
theorem pk_20 (x : Int32) : lk_two tk_h 200 [.ref 240, .int x] 84 [.ref 270, .int x] (fun _ => True) := p1_1 (P1 := p1_all) (by decide +kernel) x
set_option maxRecDepth 1000000 in
theorem pk_21 (x b : Int32) (hb : b = 0 ∨ b = 1) : lk_two tk_h 201 [.ref 240, .int x, .int b] 86 [.ref 270, .int x, .int b] (fun _ => True) := p1_b1 (P1 := [(-2147483648, -2), (-1, -1), (0, 2147483647)]) (by decide +kernel) x b hb
set_option maxRecDepth 1000000 in
theorem pk_24 (x : Int32) : lk_two tk_h 204 [.ref 240, .int x] 94 [.ref 270, .int x] (fun _ => True) := p1_1 (P1 := p1_R3) (by decide +kernel) x
set_option maxRecDepth 1000000 in
theorem pk_25 (x b : Int32) (hb : b = 0 ∨ b = 1) : lk_two tk_h 205 [.ref 240, .int x, .int b] 95 [.ref 270, .int x, .int b] (fun _ => True) := p1_b1 (P1 := p1_A) (by decide +kernel) x b hb
set_option maxRecDepth 1000000 in
theorem pk_26 : lk_two tk_h 206 [.ref 240] 104 [.ref 270] (fun _ => True) := p1_0 (by decide +kernel)
set_option maxRecDepth 1000000 in
theorem pk_27 : lk_two tk_h 207 [.ref 240] 111 [.ref 270] (fun _ => True) := p1_0 (by decide +kernel)
set_option maxRecDepth 1000000 in
theorem pk_28 : lk_two tk_h 208 [.ref 240] 110 [.ref 270] (fun _ => True) := p1_0 (by decide +kernel)
set_option maxRecDepth 1000000 in
theorem pk_29 (x : Int32) : lk_two tk_h 209 [.ref 240, .int x] 112 [.ref 270, .int x] (fun _ => True) := p1_1 (P1 := p1_R3) (by decide +kernel) x
set_option maxRecDepth 1000000 in
theorem pk_30 (x y : Int32) : lk_two tk_h 210 [.ref 240, .int x, .int y] 106 [.ref 270, .int x, .int y] (fun _ => True) := p1_2 (P1 := p1_A) (P2 := (fun _ => p1_all)) (by decide +kernel) x y
set_option maxRecDepth 1000000 in
theorem pk_31 (x y : Int32) : lk_two tk_h 211 [.ref 240, .int x, .int y] 107 [.ref 270, .int x, .int y] (fun _ => True) := p1_2 (P1 := p1_F) (P2 := fun _ => p1_F) (by decide +kernel) x y
set_option maxRecDepth 1000000 in
theorem pk_33 (x : Int32) : lk_two tk_h 213 [.ref 240, .int x] 116 [.ref 270, .int x] (fun _ => True) := p1_1 (P1 := p1_R3) (by decide +kernel) x
