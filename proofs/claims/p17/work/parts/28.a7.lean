/-! ===== the law's code, piece 7 ===== -/
def tb_L7 : tf_Bk := [(1191, [(.pop, 1), (.aload_n 2, 1), (.aload_n 0, 1), (.iload 4, 2), (.iconst 1, 1), (.iadd, 1), (.iaload, 1), (.aload_n 0, 1), (.iload 4, 2), (.iconst 2, 1), (.iadd, 1), (.iaload, 1), (.invokevirtual 165, 3)]),
  (1208, [(.pop, 1), (.goto 53, 3)]),
  (1212, [(.aload_n 1, 1), (.aload_n 0, 1), (.iload 4, 2), (.iconst 1, 1), (.iadd, 1), (.iaload, 1), (.invokevirtual 166, 3)]),
  (1222, [(.pop, 1), (.aload_n 2, 1), (.aload_n 0, 1), (.iload 4, 2), (.iconst 1, 1), (.iadd, 1), (.iaload, 1), (.invokevirtual 169, 3)]),
  (1233, [(.pop, 1), (.goto 28, 3)]),
  (1237, [(.aload_n 1, 1), (.aload_n 0, 1), (.iload 4, 2), (.iconst 1, 1), (.iadd, 1), (.iaload, 1), (.invokevirtual 170, 3)]),
  (1247, [(.pop, 1), (.aload_n 2, 1), (.aload_n 0, 1), (.iload 4, 2), (.iconst 1, 1), (.iadd, 1), (.iaload, 1), (.invokevirtual 173, 3)]),
  (1258, [(.pop, 1), (.goto 3, 3)]),
  (1262, [(.iinc 4 4, 3), (.goto (-1242), 3)]),
  (1268, [(.iconst 1, 1), (.ireturn, 1)])]
set_option maxRecDepth 100000 in
theorem ck_L7 : tf_Bck code 7 tb_L7 = true := by decide +kernel
