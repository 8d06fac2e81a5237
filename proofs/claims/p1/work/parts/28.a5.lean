/-! ===== the law's code, piece 5 ===== -/
def tb_L5 : tf_Bk := [(892, [(.if_icmp .eq 398, 3), (.iconst 0, 1), (.ireturn, 1)]),
  (897, [(.aload_n 1, 1), (.aload_n 0, 1), (.iload 4, 2), (.iconst 1, 1), (.iadd, 1), (.iaload, 1), (.aload_n 0, 1), (.iload 4, 2), (.iconst 2, 1), (.iadd, 1), (.iaload, 1), (.ifCond .eq 7, 3), (.iconst 1, 1), (.goto 4, 3)]),
  (917, [(.iconst 0, 1)]),
  (918, [(.invokevirtual 121, 3)]),
  (921, [(.aload_n 2, 1), (.aload_n 0, 1), (.iload 4, 2), (.iconst 1, 1), (.iadd, 1), (.iaload, 1), (.aload_n 0, 1), (.iload 4, 2), (.iconst 2, 1), (.iadd, 1), (.iaload, 1), (.ifCond .eq 7, 3), (.iconst 1, 1), (.goto 4, 3)]),
  (941, [(.iconst 0, 1)]),
  (942, [(.invokevirtual 125, 3)]),
  (945, [(.if_icmp .eq 345, 3), (.iconst 0, 1), (.ireturn, 1)]),
  (950, [(.aload_n 1, 1), (.aload_n 0, 1), (.iload 4, 2), (.iconst 1, 1), (.iadd, 1), (.iaload, 1), (.aload_n 0, 1), (.iload 4, 2), (.iconst 2, 1), (.iadd, 1), (.iaload, 1), (.invokevirtual 126, 3)]),
  (966, [(.aload_n 2, 1), (.aload_n 0, 1), (.iload 4, 2), (.iconst 1, 1), (.iadd, 1), (.iaload, 1), (.aload_n 0, 1), (.iload 4, 2), (.iconst 2, 1), (.iadd, 1), (.iaload, 1), (.invokevirtual 129, 3)]),
  (982, [(.if_icmp .eq 308, 3), (.iconst 0, 1), (.ireturn, 1)]),
  (987, [(.aload_n 1, 1), (.aload_n 0, 1), (.iload 4, 2), (.iconst 1, 1), (.iadd, 1), (.iaload, 1), (.aload_n 0, 1), (.iload 4, 2), (.iconst 2, 1), (.iadd, 1), (.iaload, 1), (.invokevirtual 130, 3)]),
  (1003, [(.aload_n 2, 1), (.aload_n 0, 1), (.iload 4, 2), (.iconst 1, 1), (.iadd, 1), (.iaload, 1), (.aload_n 0, 1), (.iload 4, 2), (.iconst 2, 1), (.iadd, 1), (.iaload, 1), (.invokevirtual 133, 3)]),
  (1019, [(.if_icmp .eq 271, 3), (.iconst 0, 1), (.ireturn, 1)]),
  (1024, [(.aload_n 1, 1), (.aload_n 0, 1), (.iload 4, 2), (.iconst 1, 1), (.iadd, 1), (.iaload, 1), (.invokevirtual 134, 3)])]
set_option maxRecDepth 100000 in
theorem ck_L5 : tf_Bck code 7 tb_L5 = true := by decide +kernel
