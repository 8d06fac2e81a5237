/-! ===== calls on fresh objects, 5 ===== -/
set_option maxRecDepth 1000000 in
theorem pk_32 (x : Int32) : lk_two tk_h 212 [.ref 240, .int x] 115 [.ref 270, .int x] (fun _ => True) := p1_1 (P1 := p1_R3) (by decide +kernel) x
