/-! ===== the script's reads, 1 ===== -/
def lk_pcs1 : List Nat := [581, 591, 606, 612, 625, 631, 674, 680, 693, 699, 742, 752, 767, 773, 779, 789, 795, 801, 816, 826, 841, 847, 857, 863, 878, 888, 903, 909, 927]
set_option maxRecDepth 100000 in
theorem lk_dec1 : lk_pcs1.all (fun pc => decide (decode code pc = .ok (.iaload, 1))) = true := by decide +kernel
