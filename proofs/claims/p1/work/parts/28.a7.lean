/-! ===== the law's code, piece 7 ===== -/
def tb_L7 : tf_Bk := [(1182, [(.aload_n 2, 1), (.aload_n 0, 1), (.iload 4, 2), (.iconst 1, 1), (.iadd, 1), (.iaload, 1), (.aload_n 0, 1), (.iload 4, 2), (.iconst 2, 1), (.iadd, 1), (.iaload, 1), (.invokevirtual 161, 3)]),
  (1198, [(.if_icmp .eq 92, 3), (.iconst 0, 1), (.ireturn, 1)]),
  (1203, [(.aload_n 1, 1), (.aload_n 0, 1), (.iload 4, 2), (.iconst 1, 1), (.iadd, 1), (.iaload, 1), (.aload_n 0, 1), (.iload 4, 2), (.iconst 2, 1), (.iadd, 1), (.iaload, 1), (.invokevirtual 162, 3)]),
  (1219, [(.aload_n 2, 1), (.aload_n 0, 1), (.iload 4, 2), (.iconst 1, 1), (.iadd, 1), (.iaload, 1), (.aload_n 0, 1), (.iload 4, 2), (.iconst 2, 1), (.iadd, 1), (.iaload, 1), (.invokevirtual 165, 3)]),
  (1235, [(.if_icmp .eq 55, 3), (.iconst 0, 1), (.ireturn, 1)]),
  (1240, [(.aload_n 1, 1), (.aload_n 0, 1), (.iload 4, 2), (.iconst 1, 1), (.iadd, 1), (.iaload, 1), (.invokevirtual 166, 3)]),
  (1250, [(.aload_n 2, 1), (.aload_n 0, 1), (.iload 4, 2), (.iconst 1, 1), (.iadd, 1), (.iaload, 1), (.invokevirtual 169, 3)]),
  (1260, [(.if_icmp .eq 30, 3), (.iconst 0, 1), (.ireturn, 1)]),
  (1265, [(.aload_n 1, 1), (.aload_n 0, 1), (.iload 4, 2), (.iconst 1, 1), (.iadd, 1), (.iaload, 1), (.invokevirtual 170, 3)]),
  (1275, [(.aload_n 2, 1), (.aload_n 0, 1), (.iload 4, 2), (.iconst 1, 1), (.iadd, 1), (.iaload, 1), (.invokevirtual 173, 3)]),
  (1285, [(.if_icmp .eq 5, 3), (.iconst 0, 1), (.ireturn, 1)]),
  (1290, [(.iinc 4 4, 3), (.goto (-1270), 3)]),
  (1296, [(.iconst 1, 1), (.ireturn, 1)])]
set_option maxRecDepth 100000 in
theorem ck_L7 : tf_Bck code 7 tb_L7 = true := by decide +kernel
