/-! ===== the law's code, piece 0 ===== -/
def tb_L0 : tf_Bk := [(23, [(.iload 4, 2), (.aload_n 0, 1), (.arraylength, 1), (.iconst 4, 1), (.isub, 1), (.if_icmp .gt 1211, 3), (.aload_n 0, 1), (.iload 4, 2), (.iaload, 1), (.bipush 63, 2), (.iand, 1), (.tableswitch 1195 0 33 #[149, 206, 219, 260, 273, 298, 323, 372, 425, 462, 499, 510, 523, 536, 561, 601, 641, 666, 715, 740, 777, 802, 855, 892, 929, 954, 1007, 1020, 1033, 1046, 1071, 1108, 1145, 1170], 149)]),
  (188, [(.aload_n 1, 1), (.aload_n 0, 1), (.iload 4, 2), (.iconst 1, 1), (.iadd, 1), (.iaload, 1), (.i2l, 1), (.bipush 32, 2), (.lshl, 1), (.aload_n 0, 1), (.iload 4, 2), (.iconst 2, 1), (.iadd, 1), (.iaload, 1), (.i2l, 1), (.ldc2_w 22, 3), (.land, 1), (.lor, 1), (.invokevirtual 24, 3)]),
  (214, [(.pop, 1), (.aload_n 2, 1), (.aload_n 0, 1), (.iload 4, 2), (.iconst 1, 1), (.iadd, 1), (.iaload, 1), (.i2l, 1), (.bipush 32, 2), (.lshl, 1), (.aload_n 0, 1), (.iload 4, 2), (.iconst 2, 1), (.iadd, 1), (.iaload, 1), (.i2l, 1), (.ldc2_w 22, 3), (.land, 1), (.lor, 1), (.invokevirtual 28, 3)]),
  (241, [(.pop, 1), (.goto 992, 3)]),
  (245, [(.aload_n 1, 1), (.invokevirtual 29, 3)]),
  (249, [(.pop, 1), (.aload_n 2, 1), (.invokevirtual 33, 3)]),
  (254, [(.pop, 1), (.goto 979, 3)]),
  (258, [(.aload_n 1, 1), (.aload_n 0, 1), (.iload 4, 2), (.iconst 1, 1), (.iadd, 1), (.iaload, 1), (.ifCond .eq 7, 3), (.iconst 1, 1), (.goto 4, 3)]),
  (272, [(.iconst 0, 1)]),
  (273, [(.invokevirtual 34, 3)]),
  (276, [(.pop, 1), (.aload_n 2, 1), (.aload_n 0, 1), (.iload 4, 2), (.iconst 1, 1), (.iadd, 1), (.iaload, 1), (.ifCond .eq 7, 3), (.iconst 1, 1), (.goto 4, 3)]),
  (291, [(.iconst 0, 1)]),
  (292, [(.invokevirtual 38, 3)]),
  (295, [(.pop, 1), (.goto 938, 3)]),
  (299, [(.aload_n 1, 1), (.invokevirtual 39, 3)]),
  (303, [(.pop, 1), (.aload_n 2, 1), (.invokevirtual 42, 3)]),
  (308, [(.pop, 1), (.goto 925, 3)]),
  (312, [(.aload_n 1, 1), (.aload_n 0, 1), (.iload 4, 2), (.iconst 1, 1), (.iadd, 1), (.iaload, 1), (.invokevirtual 43, 3)])]
set_option maxRecDepth 100000 in
theorem ck_L0 : tf_Bck code 7 tb_L0 = true := by decide +kernel
