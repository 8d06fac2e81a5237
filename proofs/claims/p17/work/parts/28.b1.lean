/-! ===== the script's reads, 1 ===== -/
def lk_pcs1 : List Nat := [581, 592, 606, 612, 625, 631, 646, 652, 665, 671, 714, 725, 739, 745, 751, 762, 768, 774, 788, 799, 813, 819, 830, 836, 850, 861, 875, 881, 900]
set_option maxRecDepth 100000 in
theorem lk_dec1 : lk_pcs1.all (fun pc => decide (decode code pc = .ok (.iaload, 1))) = true := by decide +kernel
