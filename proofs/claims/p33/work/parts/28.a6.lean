/-! ===== the law's code, piece 6 ===== -/
def tb_L6 : tf_Bk := [(1038, [(.iconst 0, 1)]),
  (1039, [(.invokevirtual 138, 3)]),
  (1042, [(.pop, 1), (.goto 191, 3)]),
  (1046, [(.aload_n 1, 1), (.invokevirtual 139, 3)]),
  (1050, [(.pop, 1), (.aload_n 2, 1), (.invokevirtual 142, 3)]),
  (1055, [(.pop, 1), (.goto 178, 3)]),
  (1059, [(.aload_n 1, 1), (.invokevirtual 143, 3)]),
  (1063, [(.pop, 1), (.aload_n 2, 1), (.invokevirtual 146, 3)]),
  (1068, [(.pop, 1), (.goto 165, 3)]),
  (1072, [(.aload_n 1, 1), (.invokevirtual 147, 3)]),
  (1076, [(.pop, 1), (.aload_n 2, 1), (.invokevirtual 150, 3)]),
  (1081, [(.pop, 1), (.goto 152, 3)]),
  (1085, [(.aload_n 1, 1), (.aload_n 0, 1), (.iload 4, 2), (.iconst 1, 1), (.iadd, 1), (.iaload, 1), (.invokevirtual 151, 3)]),
  (1095, [(.pop, 1), (.aload_n 2, 1), (.aload_n 0, 1), (.iload 4, 2), (.iconst 1, 1), (.iadd, 1), (.iaload, 1), (.invokevirtual 154, 3)]),
  (1106, [(.pop, 1), (.goto 127, 3)]),
  (1110, [(.aload_n 1, 1), (.aload_n 0, 1), (.iload 4, 2), (.iconst 1, 1), (.iadd, 1), (.iaload, 1), (.aload_n 0, 1), (.iload 4, 2), (.iconst 2, 1), (.iadd, 1), (.iaload, 1), (.invokevirtual 155, 3)]),
  (1126, [(.pop, 1), (.aload_n 2, 1), (.aload_n 0, 1), (.iload 4, 2), (.iconst 1, 1), (.iadd, 1), (.iaload, 1), (.aload_n 0, 1), (.iload 4, 2), (.iconst 2, 1), (.iadd, 1), (.iaload, 1), (.invokevirtual 158, 3)]),
  (1143, [(.pop, 1), (.goto 90, 3)]),
  (1147, [(.aload_n 1, 1), (.aload_n 0, 1), (.iload 4, 2), (.iconst 1, 1), (.iadd, 1), (.iaload, 1), (.aload_n 0, 1), (.iload 4, 2), (.iconst 2, 1), (.iadd, 1), (.iaload, 1), (.invokevirtual 159, 3)]),
  (1163, [(.aload_n 2, 1), (.aload_n 0, 1), (.iload 4, 2), (.iconst 1, 1), (.iadd, 1), (.iaload, 1), (.aload_n 0, 1), (.iload 4, 2), (.iconst 2, 1), (.iadd, 1), (.iaload, 1), (.invokevirtual 162, 3)]),
  (1179, [(.if_icmp .eq 55, 3), (.iconst 0, 1), (.ireturn, 1)])]
set_option maxRecDepth 100000 in
theorem ck_L6 : tf_Bck code 7 tb_L6 = true := by decide +kernel
