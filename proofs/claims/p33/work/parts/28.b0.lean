/-! ===== the script's reads, 0 ===== -/
def lk_pcs0 : List Nat := [35, 194, 204, 221, 231, 264, 283, 318, 329, 343, 354, 368, 374, 380, 391, 397, 403, 417, 423, 442, 448, 470, 476, 487, 493, 507, 513, 524, 530]
set_option maxRecDepth 100000 in
theorem lk_dec0 : lk_pcs0.all (fun pc => decide (decode code pc = .ok (.iaload, 1))) = true := by decide +kernel
