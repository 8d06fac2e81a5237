/-! ===== the script's reads, 2 ===== -/
def lk_pcs2 : List Nat := [878, 900, 906, 917, 923, 937, 943, 954, 960, 974, 985, 999, 1005, 1024, 1030, 1091, 1102, 1116, 1122, 1133, 1139, 1153, 1159, 1169, 1175, 1190, 1201, 1215, 1226]
set_option maxRecDepth 100000 in
theorem lk_dec2 : lk_pcs2.all (fun pc => decide (decode code pc = .ok (.iaload, 1))) = true := by decide +kernel
