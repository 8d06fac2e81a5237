/-! ===== the law's code, piece 2 ===== -/
def tb_L2 : tf_Bk := [(456, [(.invokevirtual 62, 3)]),
  (459, [(.if_icmp .eq 775, 3), (.iconst 0, 1), (.ireturn, 1)]),
  (464, [(.aload_n 1, 1), (.aload_n 0, 1), (.iload 4, 2), (.iconst 1, 1), (.iadd, 1), (.iaload, 1), (.aload_n 0, 1), (.iload 4, 2), (.iconst 2, 1), (.iadd, 1), (.iaload, 1), (.invokevirtual 63, 3)]),
  (480, [(.pop, 1), (.aload_n 2, 1), (.aload_n 0, 1), (.iload 4, 2), (.iconst 1, 1), (.iadd, 1), (.iaload, 1), (.aload_n 0, 1), (.iload 4, 2), (.iconst 2, 1), (.iadd, 1), (.iaload, 1), (.invokevirtual 67, 3)]),
  (497, [(.pop, 1), (.goto 736, 3)]),
  (501, [(.aload_n 1, 1), (.aload_n 0, 1), (.iload 4, 2), (.iconst 1, 1), (.iadd, 1), (.iaload, 1), (.aload_n 0, 1), (.iload 4, 2), (.iconst 2, 1), (.iadd, 1), (.iaload, 1), (.invokevirtual 68, 3)]),
  (517, [(.pop, 1), (.aload_n 2, 1), (.aload_n 0, 1), (.iload 4, 2), (.iconst 1, 1), (.iadd, 1), (.iaload, 1), (.aload_n 0, 1), (.iload 4, 2), (.iconst 2, 1), (.iadd, 1), (.iaload, 1), (.invokevirtual 71, 3)]),
  (534, [(.pop, 1), (.goto 699, 3)]),
  (538, [(.aload_n 1, 1), (.invokevirtual 72, 3)]),
  (542, [(.aload_n 2, 1), (.invokevirtual 75, 3)]),
  (546, [(.goto 688, 3)]),
  (549, [(.aload_n 1, 1), (.invokevirtual 76, 3)]),
  (553, [(.pop, 1), (.aload_n 2, 1), (.invokevirtual 79, 3)]),
  (558, [(.pop, 1), (.goto 675, 3)]),
  (562, [(.aload_n 1, 1), (.invokevirtual 80, 3)]),
  (566, [(.pop, 1), (.aload_n 2, 1), (.invokevirtual 83, 3)]),
  (571, [(.pop, 1), (.goto 662, 3)]),
  (575, [(.aload_n 1, 1), (.aload_n 0, 1), (.iload 4, 2), (.iconst 1, 1), (.iadd, 1), (.iaload, 1), (.invokevirtual 84, 3)]),
  (585, [(.pop, 1), (.aload_n 2, 1), (.aload_n 0, 1), (.iload 4, 2), (.iconst 1, 1), (.iadd, 1), (.iaload, 1), (.invokevirtual 87, 3)]),
  (596, [(.pop, 1), (.goto 637, 3)]),
  (600, [(.aload_n 1, 1), (.aload_n 0, 1), (.iload 4, 2), (.iconst 1, 1), (.iadd, 1), (.iaload, 1), (.aload_n 0, 1), (.iload 4, 2), (.iconst 2, 1), (.iadd, 1), (.iaload, 1), (.aload_n 3, 1)])]
set_option maxRecDepth 100000 in
theorem ck_L2 : tf_Bck code 7 tb_L2 = true := by decide +kernel
