/-! ===== calls on fresh objects, 3 ===== -/
set_option maxRecDepth 1000000 in
theorem pk_17 (x y z : Int32) : lk_two tk_h 197 [.ref 240, .int x, .int y, .int z] 80 [.ref 270, .int x, .int y, .int z] (fun _ => True) := p1_3 (P1 := p1_F) (P2 := fun _ => p1_F) (P3 := fun a b => if p1_two a b = true then [(-2147483648, -2147483639), (-2147483638, -1), (0, 0), (1, 1), (2, 2), (3, 9), (10, 10), (11, 11), (12, 2147483647)] else p1_all) (by decide +kernel) x y z
