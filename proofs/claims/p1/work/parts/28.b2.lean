/-! ===== the script's reads, 2 ===== -/
def lk_pcs2 : List Nat := [933, 956, 962, 972, 978, 993, 999, 1009, 1015, 1030, 1040, 1055, 1061, 1079, 1085, 1147, 1157, 1172, 1178, 1188, 1194, 1209, 1215, 1225, 1231, 1246, 1256, 1271, 1281]
set_option maxRecDepth 100000 in
theorem lk_dec2 : lk_pcs2.all (fun pc => decide (decode code pc = .ok (.iaload, 1))) = true := by decide +kernel
