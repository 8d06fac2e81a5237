/-! ===== the law's code, piece 7 ===== -/
def tb_L7 : tf_Bk := [(1184, [(.aload_n 1, 1), (.aload_n 0, 1), (.iload 4, 2), (.iconst 1, 1), (.iadd, 1), (.iaload, 1), (.invokevirtual 163, 3)]),
  (1194, [(.pop, 1), (.aload_n 2, 1), (.aload_n 0, 1), (.iload 4, 2), (.iconst 1, 1), (.iadd, 1), (.iaload, 1), (.invokevirtual 166, 3)]),
  (1205, [(.pop, 1), (.goto 28, 3)]),
  (1209, [(.aload_n 1, 1), (.aload_n 0, 1), (.iload 4, 2), (.iconst 1, 1), (.iadd, 1), (.iaload, 1), (.invokevirtual 167, 3)]),
  (1219, [(.pop, 1), (.aload_n 2, 1), (.aload_n 0, 1), (.iload 4, 2), (.iconst 1, 1), (.iadd, 1), (.iaload, 1), (.invokevirtual 170, 3)]),
  (1230, [(.pop, 1), (.goto 3, 3)]),
  (1234, [(.iinc 4 4, 3), (.goto (-1214), 3)]),
  (1240, [(.iconst 1, 1), (.ireturn, 1)])]
set_option maxRecDepth 100000 in
theorem ck_L7 : tf_Bck code 7 tb_L7 = true := by decide +kernel
