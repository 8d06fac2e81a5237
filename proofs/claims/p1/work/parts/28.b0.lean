/-! ===== the script's reads, 0 ===== -/
def lk_pcs0 : List Nat := [35, 194, 204, 220, 230, 264, 282, 318, 328, 343, 353, 368, 374, 380, 390, 396, 402, 417, 423, 441, 447, 470, 476, 486, 492, 507, 513, 523, 529]
set_option maxRecDepth 100000 in
theorem lk_dec0 : lk_pcs0.all (fun pc => decide (decode code pc = .ok (.iaload, 1))) = true := by decide +kernel
