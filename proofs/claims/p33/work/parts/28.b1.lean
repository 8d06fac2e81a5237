/-! ===== the script's reads, 1 ===== -/
def lk_pcs1 : List Nat := [581, 592, 606, 612, 625, 631, 646, 652, 665, 671, 686, 697, 711, 717, 723, 734, 740, 746, 760, 771, 785, 791, 802, 808, 822, 833, 847, 853, 872]
set_option maxRecDepth 100000 in
theorem lk_dec1 : lk_pcs1.all (fun pc => decide (decode code pc = .ok (.iaload, 1))) = true := by decide +kernel
