/-! ===== calls on fresh objects, 4 ===== -/
set_option maxRecDepth 1000000 in
theorem pk_22 (x y : Int32) : lk_two tk_h 202 [.ref 240, .int x, .int y] 87 [.ref 270, .int x, .int y] (fun _ => True) := p1_2 (P1 := p1_F) (P2 := fun _ => p1_F) (by decide +kernel) x y
set_option maxRecDepth 1000000 in
theorem pk_23 (x y : Int32) : lk_two tk_h 203 [.ref 240, .int x, .int y] 92 [.ref 270, .int x, .int y] (fun _ => True) := p1_2 (P1 := [(-2147483648, -2), (-1, -1), (0, 2147483647)]) (P2 := fun _ => [(-2147483648, -1), (0, 0), (1, 2147483647)]) (by decide +kernel) x y
