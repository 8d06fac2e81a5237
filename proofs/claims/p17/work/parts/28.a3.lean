/-! ===== the law's code, piece 3 ===== -/
def tb_L3 : tf_Bk := [(614, [(.invokestatic 88, 3)]),
  (617, [(.istore 5, 2), (.aload_n 2, 1), (.aload_n 0, 1), (.iload 4, 2), (.iconst 1, 1), (.iadd, 1), (.iaload, 1), (.aload_n 0, 1), (.iload 4, 2), (.iconst 2, 1), (.iadd, 1), (.iaload, 1), (.invokevirtual 93, 3)]),
  (635, [(.istore 6, 2), (.goto 625, 3)]),
  (640, [(.aload_n 1, 1), (.aload_n 0, 1), (.iload 4, 2), (.iconst 1, 1), (.iadd, 1), (.iaload, 1), (.aload_n 0, 1), (.iload 4, 2), (.iconst 2, 1), (.iadd, 1), (.iaload, 1), (.aload_n 3, 1)]),
  (654, [(.invokestatic 94, 3)]),
  (657, [(.istore 5, 2), (.aload_n 2, 1), (.aload_n 0, 1), (.iload 4, 2), (.iconst 1, 1), (.iadd, 1), (.iaload, 1), (.aload_n 0, 1), (.iload 4, 2), (.iconst 2, 1), (.iadd, 1), (.iaload, 1), (.invokevirtual 96, 3)]),
  (675, [(.istore 6, 2), (.aload_n 2, 1), (.invokevirtual 97, 3)]),
  (681, [(.iload 5, 2), (.if_icmp .eq 5, 3), (.iconst 0, 1), (.ireturn, 1)]),
  (688, [(.iload 5, 2), (.ifCond .ne 15, 3), (.aload_n 3, 1), (.iconst 0, 1), (.laload, 1), (.iload 6, 2), (.i2l, 1), (.lcmp, 1), (.ifCond .eq 5, 3), (.iconst 0, 1), (.ireturn, 1)]),
  (705, [(.goto 557, 3)]),
  (708, [(.aload_n 1, 1), (.aload_n 0, 1), (.iload 4, 2), (.iconst 1, 1), (.iadd, 1), (.iaload, 1), (.invokevirtual 100, 3)]),
  (718, [(.pop, 1), (.aload_n 2, 1), (.aload_n 0, 1), (.iload 4, 2), (.iconst 1, 1), (.iadd, 1), (.iaload, 1), (.invokevirtual 103, 3)]),
  (729, [(.pop, 1), (.goto 532, 3)]),
  (733, [(.aload_n 1, 1), (.aload_n 0, 1), (.iload 4, 2), (.iconst 1, 1), (.iadd, 1), (.iaload, 1), (.aload_n 0, 1), (.iload 4, 2), (.iconst 2, 1), (.iadd, 1), (.iaload, 1), (.aload_n 0, 1), (.iload 4, 2), (.iconst 3, 1), (.iadd, 1), (.iaload, 1), (.invokevirtual 104, 3)])]
set_option maxRecDepth 100000 in
theorem ck_L3 : tf_Bck code 7 tb_L3 = true := by decide +kernel
