/-! ===== shift on fresh objects ===== -/
def p1_ch (a b : Int × Int) (l : List (Int × Int)) : Bool := l.all (fun c => p1_pair 188 [p1_X, p1_pv a, p1_pv b, p1_pv c] 60 [p1_M, p1_pv a, p1_pv b, p1_pv c])
set_option maxRecDepth 1000000 in
theorem p6f_0 : p1_ch (0, 0) (1, 1) (p1_up 1 10) = true := by decide +kernel
set_option maxRecDepth 1000000 in
theorem p6f_1 : p1_ch (0, 0) (1, 1) (p1_up 11 10) = true := by decide +kernel
set_option maxRecDepth 1000000 in
theorem p6f_2 : p1_ch (0, 0) (1, 1) (p1_up 21 10) = true := by decide +kernel
set_option maxRecDepth 1000000 in
theorem p6f_3 : p1_ch (0, 0) (1, 1) (p1_up 31 10) = true := by decide +kernel
set_option maxRecDepth 1000000 in
theorem p6f_4 : p1_ch (0, 0) (1, 1) (p1_up 41 10) = true := by decide +kernel
set_option maxRecDepth 1000000 in
theorem p6f_5 : p1_ch (0, 0) (1, 1) (p1_up 51 10) = true := by decide +kernel
set_option maxRecDepth 1000000 in
theorem p6f_6 : p1_ch (0, 0) (1, 1) (p1_up 61 10) = true := by decide +kernel
set_option maxRecDepth 1000000 in
theorem p6f_7 : p1_ch (0, 0) (1, 1) (p1_up 71 10) = true := by decide +kernel
set_option maxRecDepth 1000000 in
theorem p6f_8 : p1_ch (0, 0) (1, 1) (p1_up 81 10) = true := by decide +kernel
set_option maxRecDepth 1000000 in
theorem p6f_9 : p1_ch (0, 0) (1, 1) (p1_up 91 9) = true := by decide +kernel
