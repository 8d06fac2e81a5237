/-! ===== calls on fresh objects, 2 ===== -/
set_option maxRecDepth 1000000 in
theorem pk_1 : lk_two tk_h 183 [.ref 240] 25 [.ref 270] (fun _ => True) := p1_0 (by decide +kernel)
set_option maxRecDepth 1000000 in
theorem pk_11 : lk_two tk_h 193 [.ref 240] 70 [.ref 270] (fun _ => True) := p1_0 (by decide +kernel)
