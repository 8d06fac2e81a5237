/-! ===== calls on fresh objects, 0 ===== -/
set_option maxRecDepth 1000000 in
theorem pk_2 (b : Int32) (hb : b = 0 ∨ b = 1) : lk_two tk_h 184 [.ref 240, .int b] 26 [.ref 270, .int b] (fun _ => True) := p1_b0 (by decide +kernel) b hb
set_option maxRecDepth 1000000 in
theorem pk_3 : lk_two tk_h 185 [.ref 240] 55 [.ref 270] (fun _ => True) := p1_0 (by decide +kernel)
set_option maxRecDepth 1000000 in
theorem pk_4 (x : Int32) : lk_two tk_h 186 [.ref 240, .int x] 56 [.ref 270, .int x] (fun _ => True) := p1_1 (P1 := [(-2147483648, 0)] ++ p1_up 1 60 ++ [(61, 2147483647)]) (by decide +kernel) x
set_option maxRecDepth 1000000 in
theorem pk_5 (x : Int32) : lk_two tk_h 187 [.ref 240, .int x] 57 [.ref 270, .int x] (fun _ => True) := p1_1 (P1 := p1_R3) (by decide +kernel) x
set_option maxRecDepth 1000000 in
theorem pk_7 (x b : Int32) (hb : b = 0 ∨ b = 1) : lk_two tk_h 189 [.ref 240, .int x, .int b] 64 [.ref 270, .int x, .int b] (fun _ => True) := p1_b1 (P1 := p1_A) (by decide +kernel) x b hb
set_option maxRecDepth 1000000 in
theorem pk_8 (x y : Int32) : lk_two tk_h 190 [.ref 240, .int x, .int y] 65 [.ref 270, .int x, .int y] (fun _ => True) := p1_2 (P1 := p1_A) (P2 := (fun _ => p1_all)) (by decide +kernel) x y
set_option maxRecDepth 1000000 in
theorem pk_9 (x y : Int32) : lk_two tk_h 191 [.ref 240, .int x, .int y] 66 [.ref 270, .int x, .int y] (fun _ => True) := p1_2 (P1 := p1_A) (P2 := (fun _ => p1_all)) (by decide +kernel) x y
set_option maxRecDepth 1000000 in
theorem pk_12 : lk_two tk_h 194 [.ref 240] 71 [.ref 270] (fun _ => True) := p1_0 (by decide +kernel)
set_option maxRecDepth 1000000 in
theorem pk_13 (x : Int32) : lk_two tk_h 195 [.ref 240, .int x] 73 [.ref 270, .int x] (fun _ => True) := p1_1 (P1 := [(-2147483648, -1)] ++ p1_up 0 12 ++ [(12, 2147483647)]) (by decide +kernel) x
set_option maxRecDepth 1000000 in
theorem pk_16 (x : Int32) : lk_two tk_h 196 [.ref 240, .int x] 78 [.ref 270, .int x] (fun _ => True) := p1_1 (P1 := p1_F) (by decide +kernel) x
