/-! ===== the script's reads, 2 ===== -/
def lk_pcs2 : List Nat := [906, 928, 934, 945, 951, 965, 971, 982, 988, 1002, 1013, 1027, 1033, 1052, 1058, 1119, 1130, 1144, 1150, 1161, 1167, 1181, 1187, 1198, 1204, 1218, 1229, 1243, 1254]
set_option maxRecDepth 100000 in
theorem lk_dec2 : lk_pcs2.all (fun pc => decide (decode code pc = .ok (.iaload, 1))) = true := by decide +kernel
