/-! ===== the law's code, piece 4 ===== -/
def tb_L4 : tf_Bk := [(761, [(.aload_n 1, 1), (.aload_n 0, 1), (.iload 4, 2), (.iconst 1, 1), (.iadd, 1), (.iaload, 1), (.aload_n 0, 1), (.iload 4, 2), (.iconst 2, 1), (.iadd, 1), (.iaload, 1), (.aload_n 0, 1), (.iload 4, 2), (.iconst 3, 1), (.iadd, 1), (.iaload, 1), (.invokevirtual 104, 3)]),
  (783, [(.aload_n 2, 1), (.aload_n 0, 1), (.iload 4, 2), (.iconst 1, 1), (.iadd, 1), (.iaload, 1), (.aload_n 0, 1), (.iload 4, 2), (.iconst 2, 1), (.iadd, 1), (.iaload, 1), (.aload_n 0, 1), (.iload 4, 2), (.iconst 3, 1), (.iadd, 1), (.iaload, 1), (.invokevirtual 108, 3)]),
  (805, [(.if_icmp .eq 485, 3), (.iconst 0, 1), (.ireturn, 1)]),
  (810, [(.aload_n 1, 1), (.aload_n 0, 1), (.iload 4, 2), (.iconst 1, 1), (.iadd, 1), (.iaload, 1), (.invokevirtual 109, 3)]),
  (820, [(.aload_n 2, 1), (.aload_n 0, 1), (.iload 4, 2), (.iconst 1, 1), (.iadd, 1), (.iaload, 1), (.invokevirtual 112, 3)]),
  (830, [(.if_icmp .eq 460, 3), (.iconst 0, 1), (.ireturn, 1)]),
  (835, [(.aload_n 1, 1), (.aload_n 0, 1), (.iload 4, 2), (.iconst 1, 1), (.iadd, 1), (.iaload, 1), (.aload_n 0, 1), (.iload 4, 2), (.iconst 2, 1), (.iadd, 1), (.iaload, 1), (.invokevirtual 113, 3)]),
  (851, [(.aload_n 2, 1), (.aload_n 0, 1), (.iload 4, 2), (.iconst 1, 1), (.iadd, 1), (.iaload, 1), (.aload_n 0, 1), (.iload 4, 2), (.iconst 2, 1), (.iadd, 1), (.iaload, 1), (.invokevirtual 116, 3)]),
  (867, [(.if_icmp .eq 423, 3), (.iconst 0, 1), (.ireturn, 1)]),
  (872, [(.aload_n 1, 1), (.aload_n 0, 1), (.iload 4, 2), (.iconst 1, 1), (.iadd, 1), (.iaload, 1), (.invokevirtual 117, 3)]),
  (882, [(.aload_n 2, 1), (.aload_n 0, 1), (.iload 4, 2), (.iconst 1, 1), (.iadd, 1), (.iaload, 1), (.invokevirtual 120, 3)])]
set_option maxRecDepth 100000 in
theorem ck_L4 : tf_Bck code 7 tb_L4 = true := by decide +kernel
