/-! ===== shift on fresh objects, the other way ===== -/
set_option maxRecDepth 1000000 in
theorem p6g_0 : p1_ch (1, 1) (0, 0) (p1_up 1 10) = true := by decide +kernel
set_option maxRecDepth 1000000 in
theorem p6g_1 : p1_ch (1, 1) (0, 0) (p1_up 11 10) = true := by decide +kernel
set_option maxRecDepth 1000000 in
theorem p6g_2 : p1_ch (1, 1) (0, 0) (p1_up 21 10) = true := by decide +kernel
set_option maxRecDepth 1000000 in
theorem p6g_3 : p1_ch (1, 1) (0, 0) (p1_up 31 10) = true := by decide +kernel
set_option maxRecDepth 1000000 in
theorem p6g_4 : p1_ch (1, 1) (0, 0) (p1_up 41 10) = true := by decide +kernel
set_option maxRecDepth 1000000 in
theorem p6g_5 : p1_ch (1, 1) (0, 0) (p1_up 51 10) = true := by decide +kernel
set_option maxRecDepth 1000000 in
theorem p6g_6 : p1_ch (1, 1) (0, 0) (p1_up 61 10) = true := by decide +kernel
set_option maxRecDepth 1000000 in
theorem p6g_7 : p1_ch (1, 1) (0, 0) (p1_up 71 10) = true := by decide +kernel
set_option maxRecDepth 1000000 in
theorem p6g_8 : p1_ch (1, 1) (0, 0) (p1_up 81 10) = true := by decide +kernel
set_option maxRecDepth 1000000 in
theorem p6g_9 : p1_ch (1, 1) (0, 0) (p1_up 91 9) = true := by decide +kernel
