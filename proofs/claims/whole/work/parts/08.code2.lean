/-! ===== the methods' code, block by block (printed by program out of the claim's decode rows) ===== -/
def tb_X1_copyFrom : tf_Bk := [(0, [(.aload_n 0, 1), (.aload_n 1, 1), (.getfield 49, 3), (.putfield 49, 3), (.aload_n 0, 1), (.aload_n 1, 1), (.getfield 53, 3), (.putfield 53, 3), (.aload_n 0, 1), (.aload_n 1, 1), (.getfield 56, 3), (.putfield 56, 3), (.aload_n 1, 1), (.getfield 9, 3), (.iconst 0, 1), (.aload_n 0, 1), (.getfield 9, 3), (.iconst 0, 1), (.bipush 7, 2), (.invokestatic 59, 3), (.aload_n 1, 1), (.getfield 15, 3), (.iconst 0, 1), (.aload_n 0, 1), (.getfield 15, 3), (.iconst 0, 1), (.bipush 21, 2), (.invokestatic 59, 3), (.aload_n 1, 1), (.getfield 18, 3), (.iconst 0, 1), (.aload_n 0, 1), (.getfield 18, 3), (.iconst 0, 1), (.bipush 21, 2), (.invokestatic 59, 3), (.aload_n 1, 1), (.getfield 21, 3), (.iconst 0, 1), (.aload_n 0, 1), (.getfield 21, 3), (.iconst 0, 1), (.bipush 21, 2), (.invokestatic 59, 3), (.aload_n 1, 1), (.getfield 24, 3), (.iconst 0, 1), (.aload_n 0, 1), (.getfield 24, 3), (.iconst 0, 1), (.bipush 21, 2), (.invokestatic 59, 3), (.aload_n 1, 1), (.getfield 27, 3), (.iconst 0, 1), (.aload_n 0, 1), (.getfield 27, 3), (.iconst 0, 1), (.bipush 21, 2), (.invokestatic 59, 3), (.aload_n 1, 1), (.getfield 30, 3), (.iconst 0, 1), (.aload_n 0, 1), (.getfield 30, 3), (.iconst 0, 1), (.bipush 21, 2), (.invokestatic 59, 3), (.aload_n 1, 1), (.getfield 33, 3), (.iconst 0, 1), (.aload_n 0, 1), (.getfield 33, 3), (.iconst 0, 1), (.bipush 7, 2), (.invokestatic 59, 3), (.aload_n 1, 1), (.getfield 36, 3), (.iconst 0, 1), (.aload_n 0, 1), (.getfield 36, 3), (.iconst 0, 1), (.bipush 7, 2), (.invokestatic 59, 3), (.aload_n 1, 1), (.getfield 39, 3), (.iconst 0, 1), (.aload_n 0, 1), (.getfield 39, 3), (.iconst 0, 1), (.bipush 8, 2), (.invokestatic 59, 3), (.aload_n 0, 1), (.getfield 45, 3), (.aload_n 1, 1), (.getfield 45, 3), (.invokevirtual 65, 3), (.return_, 1)])]
def tb_X1_clear : tf_Bk := [(0, [(.aload_n 0, 1), (.iload_n 1, 1), (.putfield 49, 3), (.aload_n 0, 1), (.iconst 0, 1), (.putfield 53, 3), (.aload_n 0, 1), (.iconst 0, 1), (.putfield 56, 3), (.iconst 0, 1), (.istore_n 2, 1)]),
  (17, [(.iload_n 2, 1), (.bipush 7, 2), (.if_icmp .ge 16, 3), (.aload_n 0, 1), (.getfield 9, 3), (.iload_n 2, 1), (.iconst 0, 1), (.iastore, 1), (.iinc 2 1, 3), (.goto (-16), 3)]),
  (36, [(.return_, 1)])]
def tb_X1_addArc : tf_Bk := [(0, [(.aload_n 0, 1), (.getfield 53, 3), (.bipush 14, 2), (.if_icmp .lt 4, 3), (.return_, 1)]),
  (10, [(.aload_n 0, 1), (.getfield 15, 3), (.aload_n 0, 1), (.getfield 53, 3), (.iload_n 1, 1), (.iastore, 1), (.aload_n 0, 1), (.getfield 18, 3), (.aload_n 0, 1), (.getfield 53, 3), (.iload_n 2, 1), (.iastore, 1), (.aload_n 0, 1), (.getfield 21, 3), (.aload_n 0, 1), (.getfield 53, 3), (.iload_n 3, 1), (.iastore, 1), (.aload_n 0, 1), (.getfield 24, 3), (.aload_n 0, 1), (.getfield 53, 3), (.iload 4, 2), (.iastore, 1), (.aload_n 0, 1), (.getfield 27, 3), (.aload_n 0, 1), (.getfield 53, 3), (.iconst 0, 1), (.iastore, 1), (.aload_n 0, 1), (.getfield 30, 3), (.aload_n 0, 1), (.getfield 53, 3), (.iconst 0, 1), (.iastore, 1), (.aload_n 0, 1), (.dup, 1), (.getfield 53, 3), (.iconst 1, 1), (.iadd, 1), (.putfield 53, 3), (.return_, 1)])]
def tb_X1_hasArc : tf_Bk := [(0, [(.iload_n 1, 1), (.ifCond .lt 15, 3), (.iload_n 1, 1), (.aload_n 0, 1), (.getfield 53, 3), (.if_icmp .ge 7, 3), (.iconst 1, 1), (.goto 4, 3)]),
  (16, [(.iconst 0, 1)]),
  (17, [(.ireturn, 1)])]
def tb_X1_hasPoint : tf_Bk := [(0, [(.iload_n 1, 1), (.ifCond .lt 15, 3), (.iload_n 1, 1), (.aload_n 0, 1), (.getfield 49, 3), (.if_icmp .ge 7, 3), (.iconst 1, 1), (.goto 4, 3)]),
  (16, [(.iconst 0, 1)]),
  (17, [(.ireturn, 1)])]
def tb_X1_hasTwoPoints : tf_Bk := [(0, [(.aload_n 0, 1), (.iload_n 1, 1), (.invokevirtual 69, 3), (.ifCond .eq 20, 3), (.aload_n 0, 1), (.iload_n 2, 1), (.invokevirtual 69, 3), (.ifCond .eq 12, 3), (.iload_n 1, 1), (.iload_n 2, 1), (.if_icmp .eq 7, 3), (.iconst 1, 1), (.goto 4, 3)]),
  (25, [(.iconst 0, 1)]),
  (26, [(.ireturn, 1)])]
def tb_X1_toldNode : tf_Bk := [(0, [(.iload_n 1, 1), (.bipush 7, 2), (.if_icmp .ne 10, 3), (.aload_n 0, 1), (.getfield 49, 3), (.goto 4, 3)]),
  (13, [(.iload_n 1, 1)]),
  (14, [(.ireturn, 1)])]
def tb_X1_setRule : tf_Bk := [(0, [(.iload_n 1, 1), (.invokestatic 73, 3), (.ifCond .ne 5, 3), (.iconst 0, 1), (.ireturn, 1)]),
  (9, [(.aload_n 0, 1), (.iload_n 1, 1), (.putfield 56, 3), (.iconst 1, 1), (.ireturn, 1)])]
def tb_X1_moveSupply : tf_Bk := [(0, [(.aload_n 0, 1), (.iload_n 1, 1), (.iload_n 2, 1), (.invokevirtual 76, 3), (.ifCond .eq 14, 3), (.iload_n 3, 1), (.iconst 1, 1), (.if_icmp .lt 9, 3), (.iload_n 3, 1), (.bipush 99, 2), (.if_icmp .le 5, 3)]),
  (20, [(.iconst 0, 1), (.ireturn, 1)]),
  (22, [(.aload_n 0, 1), (.getfield 9, 3), (.iload_n 1, 1), (.iaload, 1), (.iload_n 3, 1), (.iadd, 1), (.bipush 99, 2), (.if_icmp .gt 16, 3), (.aload_n 0, 1), (.getfield 9, 3), (.iload_n 2, 1), (.iaload, 1), (.iload_n 3, 1), (.isub, 1), (.bipush (-99), 2), (.if_icmp .ge 5, 3)]),
  (48, [(.iconst 0, 1), (.ireturn, 1)]),
  (50, [(.aload_n 0, 1), (.getfield 9, 3), (.iload_n 1, 1), (.dup2, 1), (.iaload, 1), (.iload_n 3, 1), (.iadd, 1), (.iastore, 1), (.aload_n 0, 1), (.getfield 9, 3), (.iload_n 2, 1), (.dup2, 1), (.iaload, 1), (.iload_n 3, 1), (.isub, 1), (.iastore, 1), (.aload_n 0, 1), (.iconst 1, 1), (.invokevirtual 80, 3), (.iconst 1, 1), (.ireturn, 1)])]
def tb_X1_setOpen : tf_Bk := [(0, [(.aload_n 0, 1), (.iload_n 1, 1), (.invokevirtual 84, 3), (.ifCond .eq 22, 3), (.aload_n 0, 1), (.getfield 30, 3), (.iload_n 1, 1), (.iaload, 1), (.iconst 3, 1), (.if_icmp .eq 7, 3), (.iconst 1, 1), (.goto 4, 3)]),
  (22, [(.iconst 0, 1)]),
  (23, [(.iload_n 2, 1), (.if_icmp .ne 5, 3)]),
  (27, [(.iconst 0, 1), (.ireturn, 1)]),
  (29, [(.aload_n 0, 1), (.getfield 30, 3), (.iload_n 1, 1), (.iload_n 2, 1), (.ifCond .eq 7, 3), (.iconst 0, 1), (.goto 4, 3)]),
  (42, [(.iconst 3, 1)]),
  (43, [(.iastore, 1), (.aload_n 0, 1), (.iconst 1, 1), (.invokevirtual 80, 3), (.iconst 1, 1), (.ireturn, 1)])]
def tb_X1_setBound : tf_Bk := [(0, [(.aload_n 0, 1), (.iload_n 1, 1), (.invokevirtual 84, 3), (.ifCond .eq 23, 3), (.iload_n 2, 1), (.ifCond .lt 19, 3), (.iload_n 2, 1), (.bipush 99, 2), (.if_icmp .gt 13, 3), (.iload_n 2, 1), (.aload_n 0, 1), (.getfield 21, 3), (.iload_n 1, 1), (.iaload, 1), (.if_icmp .ne 5, 3)]),
  (28, [(.iconst 0, 1), (.ireturn, 1)]),
  (30, [(.aload_n 0, 1), (.getfield 21, 3), (.iload_n 1, 1), (.iload_n 2, 1), (.iastore, 1), (.aload_n 0, 1), (.iconst 1, 1), (.invokevirtual 80, 3), (.iconst 1, 1), (.ireturn, 1)])]
def tb_X1_setCost : tf_Bk := [(0, [(.aload_n 0, 1), (.iload_n 1, 1), (.invokevirtual 84, 3), (.ifCond .eq 25, 3), (.iload_n 2, 1), (.bipush (-99), 2), (.if_icmp .lt 19, 3), (.iload_n 2, 1), (.bipush 99, 2), (.if_icmp .gt 13, 3), (.iload_n 2, 1), (.aload_n 0, 1), (.getfield 24, 3), (.iload_n 1, 1), (.iaload, 1), (.if_icmp .ne 5, 3)]),
  (30, [(.iconst 0, 1), (.ireturn, 1)]),
  (32, [(.aload_n 0, 1), (.getfield 24, 3), (.iload_n 1, 1), (.iload_n 2, 1), (.iastore, 1), (.aload_n 0, 1), (.invokevirtual 87, 3), (.iconst 1, 1), (.ireturn, 1)])]
def tb_X1_begin : tf_Bk := [(0, [(.iconst 0, 1), (.istore_n 2, 1)]),
  (2, [(.iload_n 2, 1), (.aload_n 0, 1), (.getfield 53, 3), (.if_icmp .ge 100, 3), (.aload_n 0, 1), (.getfield 30, 3), (.iload_n 2, 1), (.iaload, 1), (.iconst 3, 1), (.if_icmp .ne 13, 3), (.aload_n 0, 1), (.getfield 27, 3), (.iload_n 2, 1), (.iconst 0, 1), (.iastore, 1), (.goto 74, 3)]),
  (30, [(.iload_n 1, 1), (.ifCond .eq 33, 3), (.aload_n 0, 1), (.getfield 21, 3), (.iload_n 2, 1), (.iaload, 1), (.ifCond .le 24, 3), (.iconst 2, 1), (.aload_n 0, 1), (.getfield 27, 3), (.iload_n 2, 1), (.iaload, 1), (.imul, 1), (.aload_n 0, 1), (.getfield 21, 3), (.iload_n 2, 1), (.iaload, 1), (.if_icmp .lt 7, 3), (.iconst 1, 1), (.goto 4, 3)]),
  (64, [(.iconst 0, 1)]),
  (65, [(.istore_n 3, 1), (.aload_n 0, 1), (.getfield 30, 3), (.iload_n 2, 1), (.iload_n 3, 1), (.ifCond .eq 7, 3), (.iconst 1, 1), (.goto 4, 3)]),
  (79, [(.iconst 0, 1)]),
  (80, [(.iastore, 1), (.aload_n 0, 1), (.getfield 27, 3), (.iload_n 2, 1), (.iload_n 3, 1), (.ifCond .eq 12, 3), (.aload_n 0, 1), (.getfield 21, 3), (.iload_n 2, 1), (.iaload, 1), (.goto 4, 3)]),
  (99, [(.iconst 0, 1)]),
  (100, [(.iastore, 1)]),
  (101, [(.iinc 2 1, 3), (.goto (-102), 3)]),
  (107, [(.iconst 0, 1), (.istore_n 2, 1)]),
  (109, [(.iload_n 2, 1), (.aload_n 0, 1), (.getfield 49, 3), (.if_icmp .ge 14, 3), (.aload_n 0, 1), (.iload_n 2, 1), (.invokevirtual 90, 3), (.iinc 2 1, 3), (.goto (-16), 3)]),
  (128, [(.aload_n 0, 1), (.invokevirtual 87, 3), (.aload_n 0, 1), (.getfield 45, 3), (.dup, 1), (.getfield 94, 3), (.iconst 1, 1), (.iadd, 1), (.putfield 94, 3), (.return_, 1)])]
def tb_X1_hangByLoan : tf_Bk := [(0, [(.aload_n 0, 1), (.getfield 9, 3), (.iload_n 1, 1), (.iaload, 1), (.istore_n 2, 1), (.iconst 0, 1), (.istore_n 3, 1)]),
  (9, [(.iload_n 3, 1), (.aload_n 0, 1), (.getfield 53, 3), (.if_icmp .ge 50, 3), (.aload_n 0, 1), (.getfield 18, 3), (.iload_n 3, 1), (.iaload, 1), (.iload_n 1, 1), (.if_icmp .ne 15, 3), (.iload_n 2, 1), (.aload_n 0, 1), (.getfield 27, 3), (.iload_n 3, 1), (.iaload, 1), (.iadd, 1), (.istore_n 2, 1), (.goto 22, 3)]),
  (39, [(.aload_n 0, 1), (.getfield 15, 3), (.iload_n 3, 1), (.iaload, 1), (.iload_n 1, 1), (.if_icmp .ne 12, 3), (.iload_n 2, 1), (.aload_n 0, 1), (.getfield 27, 3), (.iload_n 3, 1), (.iaload, 1), (.isub, 1), (.istore_n 2, 1)]),
  (58, [(.iinc 3 1, 3), (.goto (-52), 3)]),
  (64, [(.bipush 14, 2), (.iload_n 1, 1), (.iadd, 1), (.istore_n 3, 1), (.aload_n 0, 1), (.getfield 15, 3), (.iload_n 3, 1), (.iload_n 2, 1), (.ifCond .lt 7, 3), (.iload_n 1, 1), (.goto 5, 3)]),
  (82, [(.bipush 7, 2)]),
  (84, [(.iastore, 1), (.aload_n 0, 1), (.getfield 18, 3), (.iload_n 3, 1), (.iload_n 2, 1), (.ifCond .lt 8, 3), (.bipush 7, 2), (.goto 4, 3)]),
  (99, [(.iload_n 1, 1)]),
  (100, [(.iastore, 1), (.aload_n 0, 1), (.getfield 21, 3), (.iload_n 3, 1), (.ldc 97, 2), (.iastore, 1), (.aload_n 0, 1), (.getfield 24, 3), (.iload_n 3, 1), (.sipush 10000, 3), (.iastore, 1), (.aload_n 0, 1), (.getfield 27, 3), (.iload_n 3, 1), (.iload_n 2, 1), (.invokestatic 98, 3), (.iastore, 1), (.aload_n 0, 1), (.getfield 30, 3), (.iload_n 3, 1), (.iconst 2, 1), (.iastore, 1), (.aload_n 0, 1), (.getfield 33, 3), (.iload_n 1, 1), (.bipush 7, 2), (.iastore, 1), (.aload_n 0, 1), (.getfield 36, 3), (.iload_n 1, 1), (.iload_n 3, 1), (.iastore, 1), (.return_, 1)])]
def tb_X1_setPrices : tf_Bk := [(0, [(.aload_n 0, 1), (.getfield 39, 3), (.bipush 7, 2), (.iconst 0, 1), (.iastore, 1), (.iconst 0, 1), (.istore_n 1, 1)]),
  (10, [(.iload_n 1, 1), (.aload_n 0, 1), (.getfield 49, 3), (.if_icmp .ge 91, 3), (.iconst 0, 1), (.istore_n 2, 1), (.iload_n 1, 1), (.istore_n 3, 1), (.iconst 0, 1), (.istore 4, 2)]),
  (25, [(.iload 4, 2), (.aload_n 0, 1), (.getfield 49, 3), (.if_icmp .ge 62, 3), (.iload_n 3, 1), (.bipush 7, 2), (.if_icmp .eq 56, 3), (.aload_n 0, 1), (.getfield 36, 3), (.iload_n 3, 1), (.iaload, 1), (.istore 5, 2), (.iload_n 2, 1), (.aload_n 0, 1), (.getfield 15, 3), (.iload 5, 2), (.iaload, 1), (.iload_n 3, 1), (.if_icmp .ne 14, 3), (.aload_n 0, 1), (.getfield 24, 3), (.iload 5, 2), (.iaload, 1), (.ineg, 1), (.goto 10, 3)]),
  (71, [(.aload_n 0, 1), (.getfield 24, 3), (.iload 5, 2), (.iaload, 1)]),
  (78, [(.iadd, 1), (.istore_n 2, 1), (.aload_n 0, 1), (.getfield 33, 3), (.iload_n 3, 1), (.iaload, 1), (.istore_n 3, 1), (.iinc 4 1, 3), (.goto (-65), 3)]),
  (93, [(.aload_n 0, 1), (.getfield 39, 3), (.iload_n 1, 1), (.iload_n 2, 1), (.iastore, 1), (.iinc 1 1, 3), (.goto (-93), 3)]),
  (106, [(.return_, 1)])]
def tb_X1_reduced : tf_Bk := [(0, [(.aload_n 0, 1), (.getfield 24, 3), (.iload_n 1, 1), (.iaload, 1), (.aload_n 0, 1), (.getfield 39, 3), (.aload_n 0, 1), (.getfield 15, 3), (.iload_n 1, 1), (.iaload, 1), (.iaload, 1), (.iadd, 1), (.aload_n 0, 1), (.getfield 39, 3), (.aload_n 0, 1), (.getfield 18, 3), (.iload_n 1, 1), (.iaload, 1), (.iaload, 1), (.isub, 1), (.ireturn, 1)])]
def tb_X1_mayOffer : tf_Bk := [(0, [(.aload_n 0, 1), (.getfield 30, 3), (.iload_n 1, 1), (.iaload, 1), (.ifCond .eq 13, 3), (.aload_n 0, 1), (.getfield 30, 3), (.iload_n 1, 1), (.iaload, 1), (.iconst 1, 1), (.if_icmp .ne 16, 3)]),
  (19, [(.aload_n 0, 1), (.getfield 21, 3), (.iload_n 1, 1), (.iaload, 1), (.ifCond .le 7, 3), (.iconst 1, 1), (.goto 4, 3)]),
  (32, [(.iconst 0, 1)]),
  (33, [(.ireturn, 1)])]
def tb_X1_offer : tf_Bk := [(0, [(.aload_n 0, 1), (.iload_n 1, 1), (.invokevirtual 104, 3), (.ifCond .ne 5, 3), (.iconst 0, 1), (.ireturn, 1)]),
  (10, [(.iconst 0, 1), (.aload_n 0, 1), (.getfield 30, 3), (.iload_n 1, 1), (.iaload, 1), (.ifCond .ne 12, 3), (.aload_n 0, 1), (.iload_n 1, 1), (.invokevirtual 107, 3), (.ineg, 1), (.goto 8, 3)]),
  (29, [(.aload_n 0, 1), (.iload_n 1, 1), (.invokevirtual 107, 3)]),
  (34, [(.invokestatic 110, 3), (.ireturn, 1)])]
def tb_X1_countOffers : tf_Bk := [(0, [(.iconst 0, 1), (.istore_n 1, 1), (.iconst 0, 1), (.istore_n 2, 1)]),
  (4, [(.iload_n 2, 1), (.aload_n 0, 1), (.getfield 53, 3), (.if_icmp .ge 20, 3), (.aload_n 0, 1), (.iload_n 2, 1), (.invokevirtual 114, 3), (.ifCond .le 6, 3), (.iinc 1 1, 3)]),
  (23, [(.iinc 2 1, 3), (.goto (-22), 3)]),
  (29, [(.iload_n 1, 1), (.ireturn, 1)])]
def tb_X1_pick : tf_Bk := [(0, [(.iload_n 1, 1), (.iconst 2, 1), (.if_icmp .ne 15, 3), (.aload_n 0, 1), (.getfield 45, 3), (.getfield 117, 3), (.iconst 1, 1), (.iadd, 1), (.goto 4, 3)]),
  (17, [(.iconst 0, 1)]),
  (18, [(.istore_n 2, 1), (.iconst (-1), 1), (.istore_n 3, 1), (.iconst 0, 1), (.istore 4, 2), (.iconst 0, 1), (.istore 5, 2)]),
  (27, [(.iload 5, 2), (.aload_n 0, 1), (.getfield 53, 3), (.if_icmp .ge 55, 3), (.iload_n 2, 1), (.iload 5, 2), (.iadd, 1), (.aload_n 0, 1), (.getfield 53, 3), (.irem, 1), (.istore 6, 2), (.aload_n 0, 1), (.iload 6, 2), (.invokevirtual 114, 3), (.istore 7, 2), (.iload 7, 2), (.ifCond .le 11, 3), (.iload_n 1, 1), (.iconst 1, 1), (.if_icmp .eq 6, 3), (.iload 6, 2), (.ireturn, 1)]),
  (68, [(.iload 7, 2), (.iload 4, 2), (.if_icmp .le 10, 3), (.iload 6, 2), (.istore_n 3, 1), (.iload 7, 2), (.istore 4, 2)]),
  (82, [(.iinc 5 1, 3), (.goto (-58), 3)]),
  (88, [(.iload_n 3, 1), (.ireturn, 1)])]
def tb_X1_room : tf_Bk := [(0, [(.iload_n 2, 1), (.ifCond .ne 10, 3), (.aload_n 0, 1), (.getfield 27, 3), (.iload_n 1, 1), (.iaload, 1), (.ireturn, 1)]),
  (11, [(.iload_n 1, 1), (.bipush 14, 2), (.if_icmp .ge 19, 3), (.aload_n 0, 1), (.getfield 21, 3), (.iload_n 1, 1), (.iaload, 1), (.aload_n 0, 1), (.getfield 27, 3), (.iload_n 1, 1), (.iaload, 1), (.isub, 1), (.goto 5, 3)]),
  (33, [(.ldc 97, 2)]),
  (35, [(.ireturn, 1)])]
def tb_X1_hasOnWay : tf_Bk := [(0, [(.iload_n 1, 1), (.istore_n 3, 1), (.iconst 0, 1), (.istore 4, 2)]),
  (5, [(.iload 4, 2), (.aload_n 0, 1), (.getfield 49, 3), (.if_icmp .ge 29, 3), (.iload_n 3, 1), (.bipush 7, 2), (.if_icmp .eq 23, 3), (.iload_n 3, 1), (.iload_n 2, 1), (.if_icmp .ne 5, 3), (.iconst 1, 1), (.ireturn, 1)]),
  (27, [(.aload_n 0, 1), (.getfield 33, 3), (.iload_n 3, 1), (.iaload, 1), (.istore_n 3, 1), (.iinc 4 1, 3), (.goto (-32), 3)]),
  (40, [(.iload_n 3, 1), (.iload_n 2, 1), (.if_icmp .ne 7, 3), (.iconst 1, 1), (.goto 4, 3)]),
  (49, [(.iconst 0, 1)]),
  (50, [(.ireturn, 1)])]
def tb_X1_depth : tf_Bk := [(0, [(.iconst 0, 1), (.istore_n 2, 1), (.iload_n 1, 1), (.istore_n 3, 1)]),
  (4, [(.iload_n 2, 1), (.aload_n 0, 1), (.getfield 49, 3), (.if_icmp .ge 22, 3), (.iload_n 3, 1), (.bipush 7, 2), (.if_icmp .eq 16, 3), (.aload_n 0, 1), (.getfield 33, 3), (.iload_n 3, 1), (.iaload, 1), (.istore_n 3, 1), (.iinc 2 1, 3), (.goto (-24), 3)]),
  (31, [(.iload_n 2, 1), (.ireturn, 1)])]
def tb_X1_countBelow : tf_Bk := [(0, [(.iconst 0, 1), (.istore_n 2, 1), (.iconst 0, 1), (.istore_n 3, 1)]),
  (4, [(.iload_n 3, 1), (.aload_n 0, 1), (.getfield 49, 3), (.if_icmp .ge 21, 3), (.aload_n 0, 1), (.iload_n 3, 1), (.iload_n 1, 1), (.invokevirtual 120, 3), (.ifCond .eq 6, 3), (.iinc 2 1, 3)]),
  (24, [(.iinc 3 1, 3), (.goto (-23), 3)]),
  (30, [(.iload_n 2, 1), (.ireturn, 1)])]
def tb_X1_loanFlow : tf_Bk := [(0, [(.bipush 14, 2), (.iload_n 1, 1), (.iadd, 1), (.istore_n 2, 1), (.aload_n 0, 1), (.getfield 15, 3), (.iload_n 2, 1), (.iaload, 1), (.iload_n 1, 1), (.if_icmp .ne 12, 3), (.aload_n 0, 1), (.getfield 27, 3), (.iload_n 2, 1), (.iaload, 1), (.goto 10, 3)]),
  (24, [(.aload_n 0, 1), (.getfield 27, 3), (.iload_n 2, 1), (.iaload, 1), (.ineg, 1)]),
  (31, [(.ireturn, 1)])]
def tb_X1_childBehind : tf_Bk := [(0, [(.iload_n 2, 1), (.iconst 1, 1), (.iadd, 1), (.istore_n 3, 1)]),
  (4, [(.iload_n 3, 1), (.aload_n 0, 1), (.getfield 49, 3), (.if_icmp .ge 21, 3), (.aload_n 0, 1), (.getfield 33, 3), (.iload_n 3, 1), (.iaload, 1), (.iload_n 1, 1), (.if_icmp .ne 5, 3), (.iload_n 3, 1), (.ireturn, 1)]),
  (24, [(.iinc 3 1, 3), (.goto (-23), 3)]),
  (30, [(.iconst (-1), 1), (.ireturn, 1)])]
def tb_X1_threadBehind : tf_Bk := [(0, [(.aload_n 0, 1), (.iload_n 1, 1), (.iconst (-1), 1), (.invokevirtual 123, 3), (.istore_n 2, 1), (.iload_n 1, 1), (.istore_n 3, 1), (.iconst 0, 1), (.istore 4, 2)]),
  (12, [(.iload 4, 2), (.aload_n 0, 1), (.getfield 49, 3), (.if_icmp .ge 44, 3), (.iload_n 2, 1), (.iconst (-1), 1), (.if_icmp .ne 39, 3), (.iload_n 3, 1), (.iconst (-1), 1), (.if_icmp .eq 34, 3), (.iload_n 3, 1), (.bipush 7, 2), (.if_icmp .eq 28, 3), (.aload_n 0, 1), (.aload_n 0, 1), (.getfield 33, 3), (.iload_n 3, 1), (.iaload, 1), (.iload_n 3, 1), (.invokevirtual 123, 3), (.istore_n 2, 1), (.aload_n 0, 1), (.getfield 33, 3), (.iload_n 3, 1), (.iaload, 1), (.istore_n 3, 1), (.iinc 4 1, 3), (.goto (-47), 3)]),
  (62, [(.iload_n 2, 1), (.ireturn, 1)])]
def tb_X1_rehang : tf_Bk := [(0, [(.iload_n 1, 1), (.istore 5, 2), (.iload_n 2, 1), (.istore 6, 2), (.iload_n 3, 1), (.istore 7, 2), (.iconst 0, 1), (.istore 8, 2)]),
  (12, [(.iload 8, 2), (.aload_n 0, 1), (.getfield 49, 3), (.if_icmp .ge 74, 3), (.iload 5, 2), (.bipush 7, 2), (.if_icmp .eq 67, 3), (.aload_n 0, 1), (.getfield 33, 3), (.iload 5, 2), (.iaload, 1), (.istore 9, 2), (.aload_n 0, 1), (.getfield 36, 3), (.iload 5, 2), (.iaload, 1), (.istore 10, 2), (.aload_n 0, 1), (.getfield 33, 3), (.iload 5, 2), (.iload 6, 2), (.iastore, 1), (.aload_n 0, 1), (.getfield 36, 3), (.iload 5, 2), (.iload 7, 2), (.iastore, 1), (.iload 10, 2), (.iload 4, 2), (.if_icmp .ne 6, 3), (.goto 21, 3)]),
  (74, [(.iload 5, 2), (.istore 6, 2), (.iload 10, 2), (.istore 7, 2), (.iload 9, 2), (.istore 5, 2), (.iinc 8 1, 3), (.goto (-77), 3)]),
  (92, [(.return_, 1)])]
def tb_X1_unmet : tf_Bk := [(0, [(.iconst 0, 1), (.istore_n 1, 1), (.iconst 0, 1), (.istore_n 2, 1)]),
  (4, [(.iload_n 2, 1), (.aload_n 0, 1), (.getfield 49, 3), (.if_icmp .ge 21, 3), (.iload_n 1, 1), (.aload_n 0, 1), (.getfield 27, 3), (.bipush 14, 2), (.iload_n 2, 1), (.iadd, 1), (.iaload, 1), (.iadd, 1), (.istore_n 1, 1), (.iinc 2 1, 3), (.goto (-23), 3)]),
  (30, [(.iload_n 1, 1), (.ireturn, 1)])]
def tb_X1_spent : tf_Bk := [(0, [(.iconst 0, 1), (.istore_n 1, 1), (.iconst 0, 1), (.istore_n 2, 1)]),
  (4, [(.iload_n 2, 1), (.aload_n 0, 1), (.getfield 53, 3), (.if_icmp .ge 25, 3), (.iload_n 1, 1), (.aload_n 0, 1), (.getfield 27, 3), (.iload_n 2, 1), (.iaload, 1), (.aload_n 0, 1), (.getfield 24, 3), (.iload_n 2, 1), (.iaload, 1), (.imul, 1), (.iadd, 1), (.istore_n 1, 1), (.iinc 2 1, 3), (.goto (-27), 3)]),
  (34, [(.iload_n 1, 1), (.ireturn, 1)])]
def tb_X1_flowingCostAbove : tf_Bk := [(0, [(.bipush 100, 2), (.istore_n 2, 1), (.iconst 0, 1), (.istore_n 3, 1)]),
  (5, [(.iload_n 3, 1), (.aload_n 0, 1), (.getfield 53, 3), (.if_icmp .ge 45, 3), (.aload_n 0, 1), (.getfield 27, 3), (.iload_n 3, 1), (.iaload, 1), (.ifCond .le 30, 3), (.aload_n 0, 1), (.getfield 24, 3), (.iload_n 3, 1), (.iaload, 1), (.iload_n 1, 1), (.if_icmp .le 20, 3), (.aload_n 0, 1), (.getfield 24, 3), (.iload_n 3, 1), (.iaload, 1), (.iload_n 2, 1), (.if_icmp .ge 10, 3), (.aload_n 0, 1), (.getfield 24, 3), (.iload_n 3, 1), (.iaload, 1), (.istore_n 2, 1)]),
  (49, [(.iinc 3 1, 3), (.goto (-47), 3)]),
  (55, [(.iload_n 2, 1), (.ireturn, 1)])]
def tb_X1_flowAtCost : tf_Bk := [(0, [(.iconst 0, 1), (.istore_n 2, 1), (.iconst 0, 1), (.istore_n 3, 1)]),
  (4, [(.iload_n 3, 1), (.aload_n 0, 1), (.getfield 53, 3), (.if_icmp .ge 28, 3), (.aload_n 0, 1), (.getfield 24, 3), (.iload_n 3, 1), (.iaload, 1), (.iload_n 1, 1), (.if_icmp .ne 12, 3), (.iload_n 2, 1), (.aload_n 0, 1), (.getfield 27, 3), (.iload_n 3, 1), (.iaload, 1), (.iadd, 1), (.istore_n 2, 1)]),
  (31, [(.iinc 3 1, 3), (.goto (-30), 3)]),
  (37, [(.iload_n 2, 1), (.ireturn, 1)])]
def tb_X1_countApart : tf_Bk := [(0, [(.iconst 0, 1), (.istore_n 2, 1), (.iconst 0, 1), (.istore_n 3, 1)]),
  (4, [(.iload_n 3, 1), (.bipush 14, 2), (.if_icmp .ge 59, 3), (.iload_n 3, 1), (.aload_n 0, 1), (.getfield 53, 3), (.if_icmp .ge 12, 3), (.aload_n 0, 1), (.getfield 27, 3), (.iload_n 3, 1), (.iaload, 1), (.goto 4, 3)]),
  (27, [(.iconst 0, 1)]),
  (28, [(.istore 4, 2), (.iload_n 3, 1), (.aload_n 1, 1), (.getfield 53, 3), (.if_icmp .ge 12, 3), (.aload_n 1, 1), (.getfield 27, 3), (.iload_n 3, 1), (.iaload, 1), (.goto 4, 3)]),
  (47, [(.iconst 0, 1)]),
  (48, [(.istore 5, 2), (.iload 4, 2), (.iload 5, 2), (.if_icmp .eq 6, 3), (.iinc 2 1, 3)]),
  (60, [(.iinc 3 1, 3), (.goto (-59), 3)]),
  (66, [(.iload_n 2, 1), (.ireturn, 1)])]
def tb_X1_spread : tf_Bk := [(0, [(.iconst 0, 1), (.istore_n 2, 1)]),
  (2, [(.iload_n 2, 1), (.aload_n 0, 1), (.getfield 53, 3), (.if_icmp .ge 86, 3), (.aload_n 0, 1), (.getfield 30, 3), (.iload_n 2, 1), (.iaload, 1), (.iconst 3, 1), (.if_icmp .eq 70, 3), (.aload_n 0, 1), (.getfield 15, 3), (.iload_n 2, 1), (.iaload, 1), (.istore_n 3, 1), (.aload_n 0, 1), (.getfield 18, 3), (.iload_n 2, 1), (.iaload, 1), (.istore 4, 2), (.aload_n 1, 1), (.iload 4, 2), (.aload_n 1, 1), (.iload 4, 2), (.iaload, 1), (.aload_n 1, 1), (.iload_n 3, 1), (.iaload, 1), (.aload_n 0, 1), (.getfield 21, 3), (.iload_n 2, 1), (.iaload, 1), (.aload_n 0, 1), (.getfield 27, 3), (.iload_n 2, 1), (.iaload, 1), (.isub, 1), (.invokestatic 126, 3), (.invokestatic 110, 3), (.iastore, 1), (.aload_n 1, 1), (.iload_n 3, 1), (.aload_n 1, 1), (.iload_n 3, 1), (.iaload, 1), (.aload_n 1, 1), (.iload 4, 2), (.iaload, 1), (.aload_n 0, 1), (.getfield 27, 3), (.iload_n 2, 1), (.iaload, 1), (.invokestatic 126, 3), (.invokestatic 110, 3), (.iastore, 1)]),
  (87, [(.iinc 2 1, 3), (.goto (-88), 3)]),
  (93, [(.return_, 1)])]
def tb_X1_shortOf : tf_Bk := [(0, [(.iconst 0, 1), (.istore_n 2, 1), (.iconst 0, 1), (.istore_n 3, 1)]),
  (4, [(.iload_n 3, 1), (.aload_n 0, 1), (.getfield 49, 3), (.if_icmp .ge 27, 3), (.iload_n 1, 1), (.iload_n 3, 1), (.ishr, 1), (.iconst 1, 1), (.iand, 1), (.iconst 1, 1), (.if_icmp .ne 12, 3), (.iload_n 2, 1), (.aload_n 0, 1), (.getfield 9, 3), (.iload_n 3, 1), (.iaload, 1), (.iadd, 1), (.istore_n 2, 1)]),
  (30, [(.iinc 3 1, 3), (.goto (-29), 3)]),
  (36, [(.iconst 0, 1), (.istore_n 3, 1)]),
  (38, [(.iload_n 3, 1), (.aload_n 0, 1), (.getfield 53, 3), (.if_icmp .ge 55, 3), (.aload_n 0, 1), (.getfield 30, 3), (.iload_n 3, 1), (.iaload, 1), (.iconst 3, 1), (.if_icmp .eq 39, 3), (.iload_n 1, 1), (.aload_n 0, 1), (.getfield 15, 3), (.iload_n 3, 1), (.iaload, 1), (.ishr, 1), (.iconst 1, 1), (.iand, 1), (.iconst 1, 1), (.if_icmp .ne 25, 3), (.iload_n 1, 1), (.aload_n 0, 1), (.getfield 18, 3), (.iload_n 3, 1), (.iaload, 1), (.ishr, 1), (.iconst 1, 1), (.iand, 1), (.ifCond .ne 12, 3), (.iload_n 2, 1), (.aload_n 0, 1), (.getfield 21, 3), (.iload_n 3, 1), (.iaload, 1), (.isub, 1), (.istore_n 2, 1)]),
  (92, [(.iinc 3 1, 3), (.goto (-57), 3)]),
  (98, [(.iload_n 2, 1), (.ireturn, 1)])]
def tb_X1_worstSet : tf_Bk := [(0, [(.iconst 0, 1), (.istore_n 1, 1), (.iconst 0, 1), (.istore_n 2, 1), (.iconst 1, 1), (.istore_n 3, 1)]),
  (6, [(.iload_n 3, 1), (.iconst 1, 1), (.aload_n 0, 1), (.getfield 49, 3), (.ishl, 1), (.if_icmp .ge 56, 3), (.aload_n 0, 1), (.iload_n 3, 1), (.invokevirtual 129, 3), (.istore 4, 2), (.iload_n 3, 1), (.invokestatic 132, 3), (.iload_n 1, 1), (.invokestatic 132, 3), (.if_icmp .ge 7, 3), (.iconst 1, 1), (.goto 4, 3)]),
  (38, [(.iconst 0, 1)]),
  (39, [(.istore 5, 2), (.iload 4, 2), (.iload_n 2, 1), (.if_icmp .gt 14, 3), (.iload 4, 2), (.iload_n 2, 1), (.if_icmp .ne 13, 3), (.iload 5, 2), (.ifCond .eq 8, 3)]),
  (58, [(.iload_n 3, 1), (.istore_n 1, 1), (.iload 4, 2), (.istore_n 2, 1)]),
  (63, [(.iinc 3 1, 3), (.goto (-60), 3)]),
  (69, [(.iload_n 1, 1), (.ireturn, 1)])]
def tb_X1_lowestCost : tf_Bk := [(0, [(.bipush (-99), 2), (.istore_n 2, 1), (.iconst 0, 1), (.istore_n 3, 1)]),
  (5, [(.iload_n 3, 1), (.aload_n 0, 1), (.getfield 53, 3), (.if_icmp .ge 81, 3), (.aload_n 0, 1), (.iload_n 3, 1), (.invokevirtual 104, 3), (.ifCond .eq 12, 3), (.aload_n 0, 1), (.iload_n 1, 1), (.iload_n 3, 1), (.invokevirtual 137, 3), (.goto 4, 3)]),
  (30, [(.iconst 0, 1)]),
  (31, [(.istore 4, 2), (.iload 4, 2), (.ifCond .eq 50, 3), (.aload_n 0, 1), (.getfield 30, 3), (.iload_n 3, 1), (.iaload, 1), (.ifCond .ne 7, 3), (.iconst 1, 1), (.goto 4, 3)]),
  (51, [(.iconst 0, 1)]),
  (52, [(.iload 4, 2), (.ifCond .le 7, 3), (.iconst 1, 1), (.goto 4, 3)]),
  (61, [(.iconst 0, 1)]),
  (62, [(.if_icmp .ne 23, 3), (.iload_n 2, 1), (.aload_n 0, 1), (.getfield 24, 3), (.iload_n 1, 1), (.iaload, 1), (.aload_n 0, 1), (.iload_n 3, 1), (.invokevirtual 107, 3), (.iload 4, 2), (.imul, 1), (.isub, 1), (.invokestatic 110, 3), (.istore_n 2, 1)]),
  (85, [(.iinc 3 1, 3), (.goto (-83), 3)]),
  (91, [(.iload_n 2, 1), (.ireturn, 1)])]
def tb_X1_highestCost : tf_Bk := [(0, [(.bipush 99, 2), (.istore_n 2, 1), (.iconst 0, 1), (.istore_n 3, 1)]),
  (5, [(.iload_n 3, 1), (.aload_n 0, 1), (.getfield 53, 3), (.if_icmp .ge 81, 3), (.aload_n 0, 1), (.iload_n 3, 1), (.invokevirtual 104, 3), (.ifCond .eq 12, 3), (.aload_n 0, 1), (.iload_n 1, 1), (.iload_n 3, 1), (.invokevirtual 137, 3), (.goto 4, 3)]),
  (30, [(.iconst 0, 1)]),
  (31, [(.istore 4, 2), (.iload 4, 2), (.ifCond .eq 50, 3), (.aload_n 0, 1), (.getfield 30, 3), (.iload_n 3, 1), (.iaload, 1), (.ifCond .ne 7, 3), (.iconst 1, 1), (.goto 4, 3)]),
  (51, [(.iconst 0, 1)]),
  (52, [(.iload 4, 2), (.ifCond .le 7, 3), (.iconst 1, 1), (.goto 4, 3)]),
  (61, [(.iconst 0, 1)]),
  (62, [(.if_icmp .eq 23, 3), (.iload_n 2, 1), (.aload_n 0, 1), (.getfield 24, 3), (.iload_n 1, 1), (.iaload, 1), (.aload_n 0, 1), (.iload_n 3, 1), (.invokevirtual 107, 3), (.iload 4, 2), (.imul, 1), (.isub, 1), (.invokestatic 126, 3), (.istore_n 2, 1)]),
  (85, [(.iinc 3 1, 3), (.goto (-83), 3)]),
  (91, [(.iload_n 2, 1), (.ireturn, 1)])]
def tb_X1_slope : tf_Bk := [(0, [(.aload_n 0, 1), (.getfield 30, 3), (.iload_n 1, 1), (.iaload, 1), (.iconst 2, 1), (.if_icmp .eq 14, 3), (.iload_n 1, 1), (.iload_n 2, 1), (.if_icmp .ne 7, 3), (.iconst 1, 1), (.goto 4, 3)]),
  (19, [(.iconst 0, 1)]),
  (20, [(.ireturn, 1)]),
  (21, [(.aload_n 0, 1), (.getfield 36, 3), (.aload_n 0, 1), (.getfield 18, 3), (.iload_n 1, 1), (.iaload, 1), (.iaload, 1), (.iload_n 1, 1), (.if_icmp .ne 7, 3), (.iconst 1, 1), (.goto 4, 3)]),
  (40, [(.iconst 0, 1)]),
  (41, [(.istore_n 3, 1), (.iload_n 3, 1), (.ifCond .eq 12, 3), (.aload_n 0, 1), (.getfield 18, 3), (.iload_n 1, 1), (.iaload, 1), (.goto 9, 3)]),
  (55, [(.aload_n 0, 1), (.getfield 15, 3), (.iload_n 1, 1), (.iaload, 1)]),
  (61, [(.istore 4, 2), (.aload_n 0, 1), (.aload_n 0, 1), (.getfield 15, 3), (.iload_n 2, 1), (.iaload, 1), (.iload 4, 2), (.invokevirtual 120, 3), (.ifCond .eq 7, 3), (.iconst 1, 1), (.goto 4, 3)]),
  (82, [(.iconst 0, 1)]),
  (83, [(.istore 5, 2), (.aload_n 0, 1), (.aload_n 0, 1), (.getfield 18, 3), (.iload_n 2, 1), (.iaload, 1), (.iload 4, 2), (.invokevirtual 120, 3), (.ifCond .eq 7, 3), (.iconst 1, 1), (.goto 4, 3)]),
  (104, [(.iconst 0, 1)]),
  (105, [(.istore 6, 2), (.iload_n 3, 1), (.ifCond .eq 11, 3), (.iload 5, 2), (.iload 6, 2), (.isub, 1), (.goto 8, 3)]),
  (119, [(.iload 6, 2), (.iload 5, 2), (.isub, 1)]),
  (124, [(.ireturn, 1)])]
def tb_X2_put : tf_Bk := [(0, [(.aload_n 0, 1), (.getfield 19, 3), (.sipush 400, 3), (.if_icmp .ge 24, 3), (.aload_n 0, 1), (.getfield 9, 3), (.aload_n 0, 1), (.getfield 19, 3), (.iload_n 1, 1), (.i2c, 1), (.castore, 1), (.aload_n 0, 1), (.dup, 1), (.getfield 19, 3), (.iconst 1, 1), (.iadd, 1), (.putfield 19, 3)]),
  (31, [(.return_, 1)])]
def tb_X2_copyFrom : tf_Bk := [(0, [(.aload_n 1, 1), (.getfield 9, 3), (.iconst 0, 1), (.aload_n 0, 1), (.getfield 9, 3), (.iconst 0, 1), (.sipush 400, 3), (.invokestatic 22, 3), (.aload_n 0, 1), (.aload_n 1, 1), (.getfield 19, 3), (.putfield 19, 3), (.aload_n 0, 1), (.aload_n 1, 1), (.getfield 28, 3), (.putfield 28, 3), (.aload_n 0, 1), (.aload_n 1, 1), (.getfield 15, 3), (.putfield 15, 3), (.return_, 1)])]
def tb_X3_way : tf_Bk := [(0, [(.aload_n 0, 1), (.iconst 0, 1), (.putfield 19, 3), (.aload_n 0, 1), (.aload_n 1, 1), (.iload_n 2, 1), (.iload_n 3, 1), (.invokestatic 23, 3), (.putfield 27, 3), (.aload_n 0, 1), (.aload_n 1, 1), (.iload_n 2, 1), (.invokevirtual 30, 3), (.aload_n 0, 1), (.aload_n 1, 1), (.iload_n 3, 1), (.invokevirtual 34, 3), (.return_, 1)])]
def tb_X3_cycle : tf_Bk := [(0, [(.aload_n 1, 1), (.getfield 37, 3), (.iload_n 2, 1), (.iaload, 1), (.ifCond .ne 7, 3), (.iconst 1, 1), (.goto 4, 3)]),
  (13, [(.iconst 0, 1)]),
  (14, [(.istore_n 3, 1), (.iload_n 3, 1), (.ifCond .eq 12, 3), (.aload_n 1, 1), (.getfield 42, 3), (.iload_n 2, 1), (.iaload, 1), (.goto 9, 3)]),
  (28, [(.aload_n 1, 1), (.getfield 45, 3), (.iload_n 2, 1), (.iaload, 1)]),
  (34, [(.istore 4, 2), (.iload_n 3, 1), (.ifCond .eq 12, 3), (.aload_n 1, 1), (.getfield 45, 3), (.iload_n 2, 1), (.iaload, 1), (.goto 9, 3)]),
  (49, [(.aload_n 1, 1), (.getfield 42, 3), (.iload_n 2, 1), (.iaload, 1)]),
  (55, [(.istore 5, 2), (.aload_n 0, 1), (.iconst 0, 1), (.putfield 19, 3), (.aload_n 0, 1), (.aload_n 1, 1), (.iload 4, 2), (.iload 5, 2), (.invokestatic 23, 3), (.putfield 27, 3), (.aload_n 0, 1), (.aload_n 1, 1), (.iload 4, 2), (.invokevirtual 34, 3), (.aload_n 0, 1), (.aload_n 0, 1), (.getfield 19, 3), (.putfield 48, 3), (.aload_n 0, 1), (.iload_n 2, 1), (.iload_n 3, 1), (.invokevirtual 51, 3), (.aload_n 0, 1), (.aload_n 1, 1), (.iload 5, 2), (.invokevirtual 30, 3), (.aload_n 0, 1), (.aload_n 0, 1), (.aload_n 1, 1), (.invokevirtual 55, 3), (.putfield 59, 3), (.aload_n 0, 1), (.aload_n 0, 1), (.getfield 48, 3), (.putfield 62, 3), (.iconst 0, 1), (.istore 6, 2)]),
  (122, [(.iload 6, 2), (.aload_n 0, 1), (.getfield 19, 3), (.if_icmp .ge 40, 3), (.aload_n 1, 1), (.aload_n 0, 1), (.getfield 9, 3), (.iload 6, 2), (.iaload, 1), (.aload_n 0, 1), (.getfield 15, 3), (.iload 6, 2), (.baload, 1), (.invokevirtual 65, 3), (.aload_n 0, 1), (.getfield 59, 3), (.if_icmp .ne 9, 3), (.aload_n 0, 1), (.iload 6, 2), (.putfield 62, 3)]),
  (162, [(.iinc 6 1, 3), (.goto (-43), 3)]),
  (168, [(.return_, 1)])]
def tb_X3_step : tf_Bk := [(0, [(.aload_n 1, 1), (.iload_n 2, 1), (.invokevirtual 69, 3), (.istore_n 3, 1), (.iload_n 3, 1), (.iconst (-1), 1), (.if_icmp .ne 5, 3), (.iconst (-1), 1), (.ireturn, 1)]),
  (13, [(.aload_n 0, 1), (.aload_n 1, 1), (.iload_n 3, 1), (.invokevirtual 73, 3), (.iconst 0, 1), (.istore 4, 2)]),
  (22, [(.iload 4, 2), (.aload_n 0, 1), (.getfield 19, 3), (.if_icmp .ge 46, 3), (.aload_n 1, 1), (.getfield 76, 3), (.aload_n 0, 1), (.getfield 9, 3), (.iload 4, 2), (.iaload, 1), (.dup2, 1), (.iaload, 1), (.aload_n 0, 1), (.getfield 15, 3), (.iload 4, 2), (.baload, 1), (.ifCond .eq 10, 3), (.aload_n 0, 1), (.getfield 59, 3), (.goto 8, 3)]),
  (61, [(.aload_n 0, 1), (.getfield 59, 3), (.ineg, 1)]),
  (66, [(.iadd, 1), (.iastore, 1), (.iinc 4 1, 3), (.goto (-49), 3)]),
  (74, [(.aload_n 0, 1), (.aload_n 1, 1), (.iload_n 3, 1), (.aload_n 0, 1), (.getfield 9, 3), (.aload_n 0, 1), (.getfield 62, 3), (.iaload, 1), (.invokevirtual 79, 3), (.aload_n 1, 1), (.getfield 83, 3), (.iload_n 3, 1), (.aload_n 0, 1), (.getfield 9, 3), (.aload_n 0, 1), (.getfield 62, 3), (.iaload, 1), (.aload_n 0, 1), (.getfield 59, 3), (.invokevirtual 87, 3), (.iload_n 3, 1), (.ireturn, 1)])]
def tb_X3_run : tf_Bk := [(0, [(.iconst 0, 1), (.istore 4, 2)]),
  (3, [(.iload 4, 2), (.iload_n 3, 1), (.if_icmp .ge 19, 3), (.aload_n 0, 1), (.aload_n 1, 1), (.iload_n 2, 1), (.invokevirtual 92, 3), (.iconst (-1), 1), (.if_icmp .eq 9, 3), (.iinc 4 1, 3), (.goto (-19), 3)]),
  (25, [(.iload 4, 2), (.ireturn, 1)])]
def tb_X3_leaving : tf_Bk := [(0, [(.aload_n 0, 1), (.getfield 9, 3), (.aload_n 0, 1), (.getfield 62, 3), (.iaload, 1), (.ireturn, 1)])]
def tb_X3_leastRoom : tf_Bk := [(0, [(.ldc 96, 2), (.istore_n 2, 1), (.iconst 0, 1), (.istore_n 3, 1)]),
  (5, [(.iload_n 3, 1), (.aload_n 0, 1), (.getfield 19, 3), (.if_icmp .ge 30, 3), (.iload_n 2, 1), (.aload_n 1, 1), (.aload_n 0, 1), (.getfield 9, 3), (.iload_n 3, 1), (.iaload, 1), (.aload_n 0, 1), (.getfield 15, 3), (.iload_n 3, 1), (.baload, 1), (.invokevirtual 65, 3), (.invokestatic 97, 3), (.istore_n 2, 1), (.iinc 3 1, 3), (.goto (-32), 3)]),
  (40, [(.iload_n 2, 1), (.ireturn, 1)])]
def tb_X3_cost : tf_Bk := [(0, [(.iconst 0, 1), (.istore_n 2, 1), (.iconst 0, 1), (.istore_n 3, 1)]),
  (4, [(.iload_n 3, 1), (.aload_n 0, 1), (.getfield 19, 3), (.if_icmp .ge 47, 3), (.iload_n 2, 1), (.aload_n 0, 1), (.getfield 15, 3), (.iload_n 3, 1), (.baload, 1), (.ifCond .eq 17, 3), (.aload_n 1, 1), (.getfield 103, 3), (.aload_n 0, 1), (.getfield 9, 3), (.iload_n 3, 1), (.iaload, 1), (.iaload, 1), (.goto 15, 3)]),
  (36, [(.aload_n 1, 1), (.getfield 103, 3), (.aload_n 0, 1), (.getfield 9, 3), (.iload_n 3, 1), (.iaload, 1), (.iaload, 1), (.ineg, 1)]),
  (48, [(.iadd, 1), (.istore_n 2, 1), (.iinc 3 1, 3), (.goto (-49), 3)]),
  (56, [(.iload_n 2, 1), (.ireturn, 1)])]
def tb_X3_told : tf_Bk := [(0, [(.iload_n 1, 1), (.bipush 10, 2), (.if_icmp .lt 14, 3), (.iload_n 1, 1), (.bipush 10, 2), (.isub, 1), (.aload_n 0, 1), (.getfield 19, 3), (.if_icmp .lt 5, 3)]),
  (17, [(.iload_n 2, 1), (.ireturn, 1)]),
  (19, [(.aload_n 0, 1), (.getfield 9, 3), (.iload_n 1, 1), (.bipush 10, 2), (.isub, 1), (.iaload, 1), (.invokestatic 106, 3), (.ireturn, 1)])]
def tb_X3_exchange : tf_Bk := [(0, [(.iload_n 3, 1), (.iload_n 2, 1), (.if_icmp .ne 27, 3), (.aload_n 1, 1), (.getfield 37, 3), (.iload_n 2, 1), (.aload_n 0, 1), (.getfield 15, 3), (.aload_n 0, 1), (.getfield 48, 3), (.baload, 1), (.ifCond .eq 7, 3), (.iconst 1, 1), (.goto 4, 3)]),
  (26, [(.iconst 0, 1)]),
  (27, [(.iastore, 1), (.return_, 1)]),
  (29, [(.aload_n 0, 1), (.getfield 15, 3), (.aload_n 0, 1), (.getfield 48, 3), (.baload, 1), (.ifCond .eq 12, 3), (.aload_n 1, 1), (.getfield 42, 3), (.iload_n 2, 1), (.iaload, 1), (.goto 9, 3)]),
  (50, [(.aload_n 1, 1), (.getfield 45, 3), (.iload_n 2, 1), (.iaload, 1)]),
  (56, [(.istore 4, 2), (.aload_n 0, 1), (.getfield 15, 3), (.aload_n 0, 1), (.getfield 48, 3), (.baload, 1), (.ifCond .eq 12, 3), (.aload_n 1, 1), (.getfield 45, 3), (.iload_n 2, 1), (.iaload, 1), (.goto 9, 3)]),
  (79, [(.aload_n 1, 1), (.getfield 42, 3), (.iload_n 2, 1), (.iaload, 1)]),
  (85, [(.istore 5, 2), (.aload_n 1, 1), (.getfield 37, 3), (.iload_n 2, 1), (.iconst 2, 1), (.iastore, 1), (.aload_n 1, 1), (.getfield 37, 3), (.iload_n 3, 1), (.aload_n 1, 1), (.getfield 76, 3), (.iload_n 3, 1), (.iaload, 1), (.ifCond .ne 7, 3), (.iconst 0, 1), (.goto 4, 3)]),
  (112, [(.iconst 1, 1)]),
  (113, [(.iastore, 1), (.aload_n 0, 1), (.getfield 62, 3), (.aload_n 0, 1), (.getfield 48, 3), (.if_icmp .ge 16, 3), (.aload_n 1, 1), (.iload 4, 2), (.iload 5, 2), (.iload_n 2, 1), (.iload_n 3, 1), (.invokevirtual 109, 3), (.goto 13, 3)]),
  (138, [(.aload_n 1, 1), (.iload 5, 2), (.iload 4, 2), (.iload_n 2, 1), (.iload_n 3, 1), (.invokevirtual 109, 3)]),
  (148, [(.aload_n 1, 1), (.invokevirtual 113, 3), (.return_, 1)])]
def tb_X3_meeting : tf_Bk := [(0, [(.iload_n 1, 1), (.istore_n 3, 1), (.iconst 0, 1), (.istore 4, 2)]),
  (5, [(.iload 4, 2), (.bipush 8, 2), (.if_icmp .ge 33, 3), (.iload_n 3, 1), (.bipush 7, 2), (.if_icmp .eq 27, 3), (.aload_n 0, 1), (.iload_n 2, 1), (.iload_n 3, 1), (.invokevirtual 116, 3), (.ifCond .eq 5, 3), (.iload_n 3, 1), (.ireturn, 1)]),
  (29, [(.aload_n 0, 1), (.getfield 120, 3), (.iload_n 3, 1), (.iaload, 1), (.istore_n 3, 1), (.iinc 4 1, 3), (.goto (-34), 3)]),
  (42, [(.bipush 7, 2), (.ireturn, 1)])]
def tb_X3_climb : tf_Bk := [(0, [(.iload_n 2, 1), (.istore_n 3, 1), (.iconst 0, 1), (.istore 4, 2)]),
  (5, [(.iload 4, 2), (.bipush 8, 2), (.if_icmp .ge 60, 3), (.iload_n 3, 1), (.aload_n 0, 1), (.getfield 27, 3), (.if_icmp .eq 52, 3), (.iload_n 3, 1), (.bipush 7, 2), (.if_icmp .eq 46, 3), (.aload_n 1, 1), (.getfield 123, 3), (.iload_n 3, 1), (.iaload, 1), (.istore 5, 2), (.aload_n 0, 1), (.iload 5, 2), (.aload_n 1, 1), (.getfield 42, 3), (.iload 5, 2), (.iaload, 1), (.iload_n 3, 1), (.if_icmp .ne 7, 3), (.iconst 1, 1), (.goto 4, 3)]),
  (52, [(.iconst 0, 1)]),
  (53, [(.invokevirtual 51, 3), (.aload_n 1, 1), (.getfield 120, 3), (.iload_n 3, 1), (.iaload, 1), (.istore_n 3, 1), (.iinc 4 1, 3), (.goto (-61), 3)]),
  (69, [(.return_, 1)])]
def tb_X3_descend : tf_Bk := [(0, [(.aload_n 1, 1), (.iload_n 2, 1), (.invokevirtual 126, 3), (.aload_n 1, 1), (.aload_n 0, 1), (.getfield 27, 3), (.invokevirtual 126, 3), (.isub, 1), (.istore_n 3, 1), (.iload_n 3, 1), (.ifCond .lt 14, 3), (.aload_n 0, 1), (.getfield 19, 3), (.iload_n 3, 1), (.iadd, 1), (.bipush 8, 2), (.if_icmp .le 4, 3)]),
  (30, [(.return_, 1)]),
  (31, [(.iload_n 2, 1), (.istore 4, 2), (.aload_n 0, 1), (.getfield 19, 3), (.iload_n 3, 1), (.iadd, 1), (.iconst 1, 1), (.isub, 1), (.istore 5, 2)]),
  (44, [(.iload 5, 2), (.aload_n 0, 1), (.getfield 19, 3), (.if_icmp .lt 68, 3), (.iload 4, 2), (.bipush 7, 2), (.if_icmp .eq 61, 3), (.aload_n 0, 1), (.getfield 9, 3), (.iload 5, 2), (.aload_n 1, 1), (.getfield 123, 3), (.iload 4, 2), (.iaload, 1), (.iastore, 1), (.aload_n 0, 1), (.getfield 15, 3), (.iload 5, 2), (.aload_n 1, 1), (.getfield 42, 3), (.aload_n 0, 1), (.getfield 9, 3), (.iload 5, 2), (.iaload, 1), (.iaload, 1), (.iload 4, 2), (.if_icmp .eq 7, 3), (.iconst 1, 1), (.goto 4, 3)]),
  (101, [(.iconst 0, 1)]),
  (102, [(.bastore, 1), (.aload_n 1, 1), (.getfield 120, 3), (.iload 4, 2), (.iaload, 1), (.istore 4, 2), (.iinc 5 (-1), 3), (.goto (-71), 3)]),
  (118, [(.aload_n 0, 1), (.dup, 1), (.getfield 19, 3), (.iload_n 3, 1), (.iadd, 1), (.putfield 19, 3), (.return_, 1)])]
def tb_X3_add : tf_Bk := [(0, [(.aload_n 0, 1), (.getfield 19, 3), (.bipush 8, 2), (.if_icmp .ge 33, 3), (.aload_n 0, 1), (.getfield 9, 3), (.aload_n 0, 1), (.getfield 19, 3), (.iload_n 1, 1), (.iastore, 1), (.aload_n 0, 1), (.getfield 15, 3), (.aload_n 0, 1), (.getfield 19, 3), (.iload_n 2, 1), (.bastore, 1), (.aload_n 0, 1), (.dup, 1), (.getfield 19, 3), (.iconst 1, 1), (.iadd, 1), (.putfield 19, 3)]),
  (39, [(.return_, 1)])]
def tb_X5_clear : tf_Bk := [(0, [(.aload_n 0, 1), (.iconst 0, 1), (.putfield 25, 3), (.aload_n 0, 1), (.iconst 0, 1), (.putfield 28, 3), (.aload_n 0, 1), (.iconst 0, 1), (.putfield 31, 3), (.aload_n 0, 1), (.iconst (-1), 1), (.putfield 9, 3), (.return_, 1)])]
def tb_X5_copyFrom : tf_Bk := [(0, [(.aload_n 0, 1), (.aload_n 1, 1), (.getfield 25, 3), (.putfield 25, 3), (.aload_n 0, 1), (.aload_n 1, 1), (.getfield 28, 3), (.putfield 28, 3), (.aload_n 0, 1), (.aload_n 1, 1), (.getfield 31, 3), (.putfield 31, 3), (.aload_n 0, 1), (.aload_n 1, 1), (.getfield 9, 3), (.putfield 9, 3), (.aload_n 1, 1), (.getfield 15, 3), (.iconst 0, 1), (.aload_n 0, 1), (.getfield 15, 3), (.iconst 0, 1), (.bipush 12, 2), (.invokestatic 34, 3), (.aload_n 1, 1), (.getfield 19, 3), (.iconst 0, 1), (.aload_n 0, 1), (.getfield 19, 3), (.iconst 0, 1), (.bipush 12, 2), (.invokestatic 34, 3), (.aload_n 1, 1), (.getfield 22, 3), (.iconst 0, 1), (.aload_n 0, 1), (.getfield 22, 3), (.iconst 0, 1), (.bipush 12, 2), (.invokestatic 34, 3), (.return_, 1)])]
def tb_X5_count : tf_Bk := [(0, [(.aload_n 0, 1), (.getfield 25, 3), (.bipush 12, 2), (.irem, 1), (.istore 4, 2), (.aload_n 0, 1), (.getfield 15, 3), (.iload 4, 2), (.iload_n 1, 1), (.iastore, 1), (.aload_n 0, 1), (.getfield 19, 3), (.iload 4, 2), (.iload_n 2, 1), (.iastore, 1), (.aload_n 0, 1), (.getfield 22, 3), (.iload 4, 2), (.iload_n 3, 1), (.iastore, 1), (.aload_n 0, 1), (.dup, 1), (.getfield 25, 3), (.iconst 1, 1), (.iadd, 1), (.putfield 25, 3), (.iload_n 3, 1), (.ifCond .ne 13, 3), (.aload_n 0, 1), (.dup, 1), (.getfield 28, 3), (.iconst 1, 1), (.iadd, 1), (.putfield 28, 3)]),
  (57, [(.aload_n 0, 1), (.iload_n 1, 1), (.putfield 9, 3), (.return_, 1)])]
def tb_X5_told : tf_Bk := [(0, [(.iload_n 1, 1), (.ifCond .lt 17, 3), (.iload_n 1, 1), (.bipush 12, 2), (.if_icmp .ge 11, 3), (.iload_n 1, 1), (.aload_n 0, 1), (.getfield 25, 3), (.if_icmp .lt 5, 3)]),
  (18, [(.iconst (-1), 1), (.ireturn, 1)]),
  (20, [(.aload_n 0, 1), (.getfield 25, 3), (.iconst 1, 1), (.isub, 1), (.iload_n 1, 1), (.isub, 1), (.bipush 12, 2), (.irem, 1), (.istore_n 3, 1), (.iload_n 2, 1), (.tableswitch 51 0 2 #[27, 34, 44], 27)]),
  (60, [(.aload_n 0, 1), (.getfield 15, 3), (.iload_n 3, 1), (.iaload, 1), (.ireturn, 1)]),
  (67, [(.aload_n 0, 1), (.getfield 19, 3), (.iload_n 3, 1), (.iaload, 1), (.invokestatic 40, 3), (.ireturn, 1)]),
  (77, [(.aload_n 0, 1), (.getfield 22, 3), (.iload_n 3, 1), (.iaload, 1), (.ireturn, 1)]),
  (84, [(.iconst (-1), 1), (.ireturn, 1)])]
def tb_X6_split : tf_Bk := [(0, [(.aload_n 0, 1), (.iconst 0, 1), (.putfield 30, 3), (.iconst 0, 1), (.istore_n 2, 1)]),
  (7, [(.iload_n 2, 1), (.aload_n 1, 1), (.getfield 34, 3), (.if_icmp .ge 21, 3), (.aload_n 0, 1), (.getfield 21, 3), (.iload_n 2, 1), (.aload_n 1, 1), (.getfield 38, 3), (.iload_n 2, 1), (.iaload, 1), (.iastore, 1), (.iinc 2 1, 3), (.goto (-23), 3)]),
  (33, [(.aload_n 0, 1), (.aload_n 1, 1), (.invokevirtual 41, 3), (.istore_n 2, 1), (.iconst 0, 1), (.istore_n 3, 1)]),
  (41, [(.iload_n 3, 1), (.bipush 14, 2), (.if_icmp .ge 30, 3), (.iload_n 2, 1), (.iconst (-1), 1), (.if_icmp .eq 25, 3), (.aload_n 0, 1), (.aload_n 1, 1), (.iload_n 2, 1), (.invokevirtual 45, 3), (.aload_n 0, 1), (.invokevirtual 49, 3), (.aload_n 0, 1), (.aload_n 1, 1), (.invokevirtual 41, 3), (.istore_n 2, 1), (.iinc 3 1, 3), (.goto (-30), 3)]),
  (74, [(.return_, 1)])]
def tb_X6_told : tf_Bk := [(0, [(.iload_n 1, 1), (.ifCond .lt 11, 3), (.iload_n 1, 1), (.aload_n 0, 1), (.getfield 30, 3), (.if_icmp .lt 5, 3)]),
  (12, [(.iconst (-1), 1), (.ireturn, 1)]),
  (14, [(.iload_n 2, 1), (.ifCond .ne 10, 3), (.aload_n 0, 1), (.getfield 9, 3), (.iload_n 1, 1), (.iaload, 1), (.ireturn, 1)]),
  (25, [(.iload_n 2, 1), (.iconst 1, 1), (.if_icmp .ne 10, 3), (.aload_n 0, 1), (.getfield 15, 3), (.iload_n 1, 1), (.iaload, 1), (.ireturn, 1)]),
  (37, [(.iload_n 2, 1), (.bipush 10, 2), (.if_icmp .lt 16, 3), (.iload_n 2, 1), (.bipush 10, 2), (.isub, 1), (.aload_n 0, 1), (.getfield 15, 3), (.iload_n 1, 1), (.iaload, 1), (.if_icmp .lt 5, 3)]),
  (56, [(.iconst (-1), 1), (.ireturn, 1)]),
  (58, [(.aload_n 0, 1), (.getfield 18, 3), (.iload_n 1, 1), (.bipush 7, 2), (.imul, 1), (.iload_n 2, 1), (.iadd, 1), (.bipush 10, 2), (.isub, 1), (.iaload, 1), (.ireturn, 1)])]
def tb_X6_start : tf_Bk := [(0, [(.iconst 0, 1), (.istore_n 2, 1)]),
  (2, [(.iload_n 2, 1), (.aload_n 1, 1), (.getfield 52, 3), (.if_icmp .ge 20, 3), (.aload_n 0, 1), (.aload_n 1, 1), (.iload_n 2, 1), (.invokevirtual 55, 3), (.ifCond .le 5, 3), (.iload_n 2, 1), (.ireturn, 1)]),
  (21, [(.iinc 2 1, 3), (.goto (-22), 3)]),
  (27, [(.iconst 0, 1), (.istore_n 2, 1)]),
  (29, [(.iload_n 2, 1), (.aload_n 1, 1), (.getfield 52, 3), (.if_icmp .ge 21, 3), (.aload_n 0, 1), (.aload_n 1, 1), (.iload_n 2, 1), (.invokevirtual 59, 3), (.iconst (-1), 1), (.if_icmp .eq 5, 3), (.iload_n 2, 1), (.ireturn, 1)]),
  (49, [(.iinc 2 1, 3), (.goto (-23), 3)]),
  (55, [(.iconst (-1), 1), (.ireturn, 1)])]
def tb_X6_surplus : tf_Bk := [(0, [(.iconst 0, 1), (.istore_n 3, 1), (.iconst 0, 1), (.istore 4, 2)]),
  (5, [(.iload 4, 2), (.aload_n 1, 1), (.getfield 34, 3), (.if_icmp .ge 54, 3), (.aload_n 1, 1), (.getfield 62, 3), (.iload 4, 2), (.iaload, 1), (.iload_n 2, 1), (.if_icmp .ne 16, 3), (.iload_n 3, 1), (.aload_n 0, 1), (.getfield 21, 3), (.iload 4, 2), (.iaload, 1), (.iadd, 1), (.istore_n 3, 1), (.goto 24, 3)]),
  (38, [(.aload_n 1, 1), (.getfield 65, 3), (.iload 4, 2), (.iaload, 1), (.iload_n 2, 1), (.if_icmp .ne 13, 3), (.iload_n 3, 1), (.aload_n 0, 1), (.getfield 21, 3), (.iload 4, 2), (.iaload, 1), (.isub, 1), (.istore_n 3, 1)]),
  (59, [(.iinc 4 1, 3), (.goto (-57), 3)]),
  (65, [(.iload_n 3, 1), (.ireturn, 1)])]
def tb_X6_arcOut : tf_Bk := [(0, [(.iconst 0, 1), (.istore_n 3, 1)]),
  (2, [(.iload_n 3, 1), (.aload_n 1, 1), (.getfield 34, 3), (.if_icmp .ge 30, 3), (.aload_n 1, 1), (.getfield 62, 3), (.iload_n 3, 1), (.iaload, 1), (.iload_n 2, 1), (.if_icmp .ne 14, 3), (.aload_n 0, 1), (.getfield 21, 3), (.iload_n 3, 1), (.iaload, 1), (.ifCond .le 5, 3), (.iload_n 3, 1), (.ireturn, 1)]),
  (31, [(.iinc 3 1, 3), (.goto (-32), 3)]),
  (37, [(.iconst (-1), 1), (.ireturn, 1)])]
def tb_X6_go : tf_Bk := [(0, [(.iconst 0, 1), (.istore_n 3, 1)]),
  (2, [(.iload_n 3, 1), (.bipush 7, 2), (.if_icmp .ge 16, 3), (.aload_n 0, 1), (.getfield 27, 3), (.iload_n 3, 1), (.iconst (-1), 1), (.iastore, 1), (.iinc 3 1, 3), (.goto (-16), 3)]),
  (21, [(.aload_n 0, 1), (.iconst 0, 1), (.putfield 68, 3), (.aload_n 0, 1), (.iconst 0, 1), (.putfield 71, 3), (.iload_n 2, 1), (.istore_n 3, 1)]),
  (33, [(.aload_n 0, 1), (.getfield 68, 3), (.bipush 7, 2), (.if_icmp .ge 81, 3), (.aload_n 0, 1), (.getfield 27, 3), (.iload_n 3, 1), (.aload_n 0, 1), (.getfield 68, 3), (.iastore, 1), (.aload_n 0, 1), (.aload_n 1, 1), (.iload_n 3, 1), (.invokevirtual 59, 3), (.istore 4, 2), (.iload 4, 2), (.iconst (-1), 1), (.if_icmp .ne 4, 3), (.return_, 1)]),
  (67, [(.aload_n 0, 1), (.getfield 24, 3), (.aload_n 0, 1), (.getfield 68, 3), (.iload 4, 2), (.iastore, 1), (.aload_n 0, 1), (.dup, 1), (.getfield 68, 3), (.iconst 1, 1), (.iadd, 1), (.putfield 68, 3), (.aload_n 1, 1), (.getfield 65, 3), (.iload 4, 2), (.iaload, 1), (.istore_n 3, 1), (.aload_n 0, 1), (.getfield 27, 3), (.iload_n 3, 1), (.iaload, 1), (.iconst (-1), 1), (.if_icmp .eq 14, 3), (.aload_n 0, 1), (.aload_n 0, 1), (.getfield 27, 3), (.iload_n 3, 1), (.iaload, 1), (.putfield 71, 3), (.return_, 1)]),
  (117, [(.goto (-84), 3)]),
  (120, [(.return_, 1)])]
def tb_X6_keep : tf_Bk := [(0, [(.ldc 74, 2), (.istore_n 1, 1), (.aload_n 0, 1), (.getfield 71, 3), (.istore_n 2, 1)]),
  (8, [(.iload_n 2, 1), (.aload_n 0, 1), (.getfield 68, 3), (.if_icmp .ge 25, 3), (.iload_n 1, 1), (.aload_n 0, 1), (.getfield 21, 3), (.aload_n 0, 1), (.getfield 24, 3), (.iload_n 2, 1), (.iaload, 1), (.iaload, 1), (.invokestatic 75, 3), (.istore_n 1, 1), (.iinc 2 1, 3), (.goto (-27), 3)]),
  (38, [(.aload_n 0, 1), (.getfield 71, 3), (.istore_n 2, 1)]),
  (43, [(.iload_n 2, 1), (.aload_n 0, 1), (.getfield 68, 3), (.if_icmp .ge 49, 3), (.aload_n 0, 1), (.getfield 21, 3), (.aload_n 0, 1), (.getfield 24, 3), (.iload_n 2, 1), (.iaload, 1), (.dup2, 1), (.iaload, 1), (.iload_n 1, 1), (.isub, 1), (.iastore, 1), (.aload_n 0, 1), (.getfield 18, 3), (.aload_n 0, 1), (.getfield 30, 3), (.bipush 7, 2), (.imul, 1), (.iload_n 2, 1), (.iadd, 1), (.aload_n 0, 1), (.getfield 71, 3), (.isub, 1), (.aload_n 0, 1), (.getfield 24, 3), (.iload_n 2, 1), (.iaload, 1), (.iastore, 1), (.iinc 2 1, 3), (.goto (-51), 3)]),
  (97, [(.aload_n 0, 1), (.getfield 9, 3), (.aload_n 0, 1), (.getfield 30, 3), (.iload_n 1, 1), (.iastore, 1), (.aload_n 0, 1), (.getfield 15, 3), (.aload_n 0, 1), (.getfield 30, 3), (.aload_n 0, 1), (.getfield 68, 3), (.aload_n 0, 1), (.getfield 71, 3), (.isub, 1), (.iastore, 1), (.aload_n 0, 1), (.dup, 1), (.getfield 30, 3), (.iconst 1, 1), (.iadd, 1), (.putfield 30, 3), (.return_, 1)])]
def tb_X8_spell : tf_Bk := [(0, [(.iconst 0, 1), (.istore_n 3, 1)]),
  (2, [(.iload_n 3, 1), (.bipush 8, 2), (.if_icmp .ge 17, 3), (.lload_n 1, 1), (.iload_n 3, 1), (.invokestatic 82, 3), (.ifCond .eq 9, 3), (.iinc 3 1, 3), (.goto (-17), 3)]),
  (22, [(.aload_n 0, 1), (.getfield 36, 3), (.getfield 86, 3), (.iload_n 3, 1), (.iadd, 1), (.sipush 400, 3), (.if_icmp .le 5, 3), (.iconst (-1), 1), (.ireturn, 1)]),
  (39, [(.iconst 0, 1), (.istore 4, 2)]),
  (42, [(.iload 4, 2), (.iload_n 3, 1), (.if_icmp .ge 22, 3), (.aload_n 0, 1), (.getfield 36, 3), (.lload_n 1, 1), (.iload 4, 2), (.invokestatic 82, 3), (.invokevirtual 90, 3), (.iinc 4 1, 3), (.goto (-22), 3)]),
  (67, [(.aload_n 0, 1), (.getfield 36, 3), (.getfield 86, 3), (.ireturn, 1)])]
def tb_X8_lay : tf_Bk := [(0, [(.aload_n 0, 1), (.getfield 43, 3), (.aload_n 0, 1), (.getfield 36, 3), (.iconst 0, 1), (.invokevirtual 93, 3), (.aload_n 0, 1), (.getfield 43, 3), (.getfield 97, 3), (.ifCond .ne 17, 3), (.aload_n 0, 1), (.getfield 43, 3), (.aload_n 0, 1), (.getfield 36, 3), (.getfield 86, 3), (.invokevirtual 100, 3)]),
  (36, [(.aload_n 0, 1), (.invokevirtual 103, 3), (.aload_n 0, 1), (.getfield 43, 3), (.getfield 97, 3), (.ifCond .eq 5, 3), (.iconst (-1), 1), (.ireturn, 1)]),
  (52, [(.aload_n 0, 1), (.getfield 43, 3), (.aload_n 0, 1), (.getfield 12, 3), (.invokevirtual 106, 3), (.aload_n 0, 1), (.getfield 12, 3), (.iconst 0, 1), (.invokevirtual 70, 3), (.aload_n 0, 1), (.getfield 12, 3), (.getfield 74, 3), (.invokevirtual 78, 3), (.aload_n 0, 1), (.iconst 0, 1), (.putfield 110, 3), (.aload_n 0, 1), (.getfield 12, 3), (.getfield 113, 3), (.ireturn, 1)])]
def tb_X8_fault : tf_Bk := [(0, [(.iload_n 1, 1), (.ifCond .eq 13, 3), (.aload_n 0, 1), (.getfield 36, 3), (.getfield 116, 3), (.goto 10, 3)]),
  (14, [(.aload_n 0, 1), (.getfield 36, 3), (.getfield 119, 3)]),
  (21, [(.ireturn, 1)])]
def tb_X8_pivot : tf_Bk := [(0, [(.aload_n 0, 1), (.invokevirtual 122, 3), (.aload_n 0, 1), (.getfield 22, 3), (.aload_n 0, 1), (.getfield 12, 3), (.aload_n 0, 1), (.getfield 12, 3), (.getfield 125, 3), (.invokevirtual 128, 3), (.istore_n 1, 1), (.aload_n 0, 1), (.iload_n 1, 1), (.iconst (-1), 1), (.if_icmp .eq 7, 3), (.iconst 1, 1), (.goto 4, 3)]),
  (33, [(.iconst 0, 1)]),
  (34, [(.invokevirtual 132, 3), (.pop, 1), (.iload_n 1, 1), (.ireturn, 1)])]
def tb_X8_pivots : tf_Bk := [(0, [(.iload_n 1, 1), (.iconst 1, 1), (.if_icmp .lt 9, 3), (.iload_n 1, 1), (.bipush 60, 2), (.if_icmp .le 5, 3)]),
  (11, [(.iconst (-1), 1), (.ireturn, 1)]),
  (13, [(.aload_n 0, 1), (.invokevirtual 122, 3), (.aload_n 0, 1), (.getfield 22, 3), (.aload_n 0, 1), (.getfield 12, 3), (.aload_n 0, 1), (.getfield 12, 3), (.getfield 125, 3), (.iload_n 1, 1), (.invokevirtual 136, 3), (.istore_n 2, 1), (.aload_n 0, 1), (.iload_n 2, 1), (.ifCond .le 7, 3), (.iconst 1, 1), (.goto 4, 3)]),
  (46, [(.iconst 0, 1)]),
  (47, [(.invokevirtual 132, 3), (.pop, 1), (.iload_n 2, 1), (.ireturn, 1)])]
def tb_X8_rule : tf_Bk := [(0, [(.aload_n 0, 1), (.invokevirtual 122, 3), (.aload_n 0, 1), (.aload_n 0, 1), (.getfield 12, 3), (.iload_n 1, 1), (.invokevirtual 140, 3), (.invokevirtual 132, 3), (.ireturn, 1)])]
def tb_X8_shift : tf_Bk := [(0, [(.aload_n 0, 1), (.invokevirtual 122, 3), (.aload_n 0, 1), (.aload_n 0, 1), (.getfield 12, 3), (.iload_n 1, 1), (.iload_n 2, 1), (.iload_n 3, 1), (.invokevirtual 144, 3), (.invokevirtual 132, 3), (.ireturn, 1)])]
def tb_X8_block : tf_Bk := [(0, [(.aload_n 0, 1), (.invokevirtual 122, 3), (.aload_n 0, 1), (.aload_n 0, 1), (.getfield 12, 3), (.iload_n 1, 1), (.iload_n 2, 1), (.invokevirtual 148, 3), (.invokevirtual 132, 3), (.ireturn, 1)])]
def tb_X8_widen : tf_Bk := [(0, [(.aload_n 0, 1), (.invokevirtual 122, 3), (.aload_n 0, 1), (.aload_n 0, 1), (.getfield 12, 3), (.iload_n 1, 1), (.iload_n 2, 1), (.invokevirtual 152, 3), (.invokevirtual 132, 3), (.ireturn, 1)])]
def tb_X8_charge : tf_Bk := [(0, [(.aload_n 0, 1), (.invokevirtual 122, 3), (.aload_n 0, 1), (.aload_n 0, 1), (.getfield 12, 3), (.iload_n 1, 1), (.iload_n 2, 1), (.invokevirtual 156, 3), (.invokevirtual 132, 3), (.ireturn, 1)])]
def tb_X8_cold : tf_Bk := [(0, [(.aload_n 0, 1), (.invokevirtual 122, 3), (.aload_n 0, 1), (.getfield 12, 3), (.iconst 0, 1), (.invokevirtual 70, 3), (.aload_n 0, 1), (.iconst 1, 1), (.invokevirtual 132, 3), (.pop, 1), (.return_, 1)])]
def tb_X8_work : tf_Bk := [(0, [(.aload_n 0, 1), (.getfield 43, 3), (.aload_n 0, 1), (.getfield 36, 3), (.iconst 1, 1), (.invokevirtual 93, 3), (.aload_n 0, 1), (.getfield 43, 3), (.getfield 97, 3), (.ifCond .ne 10, 3), (.aload_n 0, 1), (.getfield 43, 3), (.invokevirtual 159, 3)]),
  (29, [(.aload_n 0, 1), (.invokevirtual 103, 3), (.aload_n 0, 1), (.getfield 43, 3), (.getfield 97, 3), (.ifCond .eq 5, 3), (.iconst (-1), 1), (.ireturn, 1)]),
  (45, [(.aload_n 0, 1), (.invokevirtual 122, 3), (.iconst 0, 1), (.istore_n 1, 1)]),
  (51, [(.iload_n 1, 1), (.aload_n 0, 1), (.getfield 43, 3), (.getfield 162, 3), (.if_icmp .ge 28, 3), (.aload_n 0, 1), (.getfield 43, 3), (.iload_n 1, 1), (.aload_n 0, 1), (.getfield 12, 3), (.aload_n 0, 1), (.getfield 22, 3), (.invokevirtual 165, 3), (.ifCond .eq 9, 3), (.iinc 1 1, 3), (.goto (-33), 3)]),
  (87, [(.aload_n 0, 1), (.iload_n 1, 1), (.ifCond .le 7, 3), (.iconst 1, 1), (.goto 4, 3)]),
  (96, [(.iconst 0, 1)]),
  (97, [(.invokevirtual 132, 3), (.pop, 1), (.iload_n 1, 1), (.ireturn, 1)])]
def tb_X8_undo : tf_Bk := [(0, [(.aload_n 0, 1), (.getfield 110, 3), (.ifCond .ne 5, 3), (.iconst (-1), 1), (.ireturn, 1)]),
  (9, [(.aload_n 0, 1), (.aload_n 0, 1), (.getfield 169, 3), (.ifCond .ne 8, 3), (.bipush 10, 2), (.goto 9, 3)]),
  (22, [(.aload_n 0, 1), (.getfield 169, 3), (.iconst 1, 1), (.isub, 1)]),
  (28, [(.putfield 169, 3), (.aload_n 0, 1), (.dup, 1), (.getfield 110, 3), (.iconst 1, 1), (.isub, 1), (.putfield 110, 3), (.aload_n 0, 1), (.getfield 12, 3), (.aload_n 0, 1), (.getfield 51, 3), (.aload_n 0, 1), (.getfield 169, 3), (.aaload, 1), (.invokevirtual 172, 3), (.aload_n 0, 1), (.getfield 110, 3), (.ireturn, 1)])]
def tb_X8_grid : tf_Bk := [(0, [(.iload_n 1, 1), (.tableswitch 176 0 11 #[63, 71, 79, 87, 103, 111, 122, 133, 144, 155, 163, 171], 63)]),
  (64, [(.aload_n 0, 1), (.getfield 12, 3), (.getfield 175, 3), (.ireturn, 1)]),
  (72, [(.aload_n 0, 1), (.getfield 12, 3), (.getfield 113, 3), (.ireturn, 1)]),
  (80, [(.aload_n 0, 1), (.getfield 12, 3), (.getfield 125, 3), (.ireturn, 1)]),
  (88, [(.aload_n 0, 1), (.getfield 12, 3), (.invokevirtual 178, 3), (.ifCond .ne 7, 3), (.iconst 1, 1), (.goto 4, 3)]),
  (102, [(.iconst 0, 1)]),
  (103, [(.ireturn, 1)]),
  (104, [(.aload_n 0, 1), (.getfield 12, 3), (.invokevirtual 182, 3), (.ireturn, 1)]),
  (112, [(.aload_n 0, 1), (.getfield 12, 3), (.getfield 74, 3), (.getfield 185, 3), (.ireturn, 1)]),
  (123, [(.aload_n 0, 1), (.getfield 12, 3), (.getfield 74, 3), (.getfield 188, 3), (.ireturn, 1)]),
  (134, [(.aload_n 0, 1), (.getfield 12, 3), (.getfield 74, 3), (.getfield 191, 3), (.ireturn, 1)]),
  (145, [(.aload_n 0, 1), (.getfield 12, 3), (.getfield 74, 3), (.getfield 194, 3), (.ireturn, 1)]),
  (156, [(.aload_n 0, 1), (.getfield 12, 3), (.invokevirtual 178, 3), (.ireturn, 1)]),
  (164, [(.aload_n 0, 1), (.getfield 36, 3), (.getfield 86, 3), (.ireturn, 1)]),
  (172, [(.aload_n 0, 1), (.getfield 110, 3), (.ireturn, 1)]),
  (177, [(.iconst (-1), 1), (.ireturn, 1)])]
def tb_X8_thread : tf_Bk := [(0, [(.iload_n 1, 1), (.ifCond .lt 14, 3), (.iload_n 1, 1), (.aload_n 0, 1), (.getfield 12, 3), (.getfield 175, 3), (.if_icmp .lt 5, 3)]),
  (15, [(.iconst (-1), 1), (.ireturn, 1)]),
  (17, [(.aload_n 0, 1), (.getfield 12, 3), (.bipush 7, 2), (.iconst (-1), 1), (.invokevirtual 258, 3), (.istore_n 2, 1), (.iconst 0, 1), (.istore_n 3, 1)]),
  (30, [(.iload_n 3, 1), (.iload_n 1, 1), (.if_icmp .ge 18, 3), (.aload_n 0, 1), (.getfield 12, 3), (.iload_n 2, 1), (.invokevirtual 262, 3), (.istore_n 2, 1), (.iinc 3 1, 3), (.goto (-17), 3)]),
  (50, [(.iload_n 2, 1), (.ireturn, 1)])]
def tb_X8_path : tf_Bk := [(0, [(.aload_n 0, 1), (.getfield 12, 3), (.iload_n 1, 1), (.iload_n 2, 1), (.invokevirtual 265, 3), (.ifCond .ne 7, 3), (.sipush (-1000), 3), (.ireturn, 1)]),
  (16, [(.aload_n 0, 1), (.getfield 22, 3), (.aload_n 0, 1), (.getfield 12, 3), (.iload_n 1, 1), (.iload_n 2, 1), (.invokevirtual 268, 3), (.iload_n 3, 1), (.tableswitch 74 0 2 #[26, 34, 62], 26)]),
  (56, [(.aload_n 0, 1), (.getfield 22, 3), (.getfield 272, 3), (.ireturn, 1)]),
  (64, [(.aload_n 0, 1), (.getfield 22, 3), (.aload_n 0, 1), (.getfield 12, 3), (.invokevirtual 273, 3), (.istore 4, 2), (.iload 4, 2), (.ldc_w 277, 3), (.if_icmp .lt 7, 3), (.iconst (-1), 1), (.goto 5, 3)]),
  (89, [(.iload 4, 2)]),
  (91, [(.ireturn, 1)]),
  (92, [(.aload_n 0, 1), (.getfield 22, 3), (.aload_n 0, 1), (.getfield 12, 3), (.invokevirtual 278, 3), (.ireturn, 1)]),
  (104, [(.aload_n 0, 1), (.getfield 22, 3), (.iload_n 3, 1), (.sipush (-1000), 3), (.invokevirtual 280, 3), (.ireturn, 1)])]
def tb_X8_next : tf_Bk := [(0, [(.aload_n 0, 1), (.getfield 12, 3), (.aload_n 0, 1), (.getfield 12, 3), (.getfield 125, 3), (.invokevirtual 283, 3), (.istore_n 2, 1), (.iload_n 2, 1), (.iconst (-1), 1), (.if_icmp .ne 5, 3), (.iconst (-1), 1), (.ireturn, 1)]),
  (22, [(.aload_n 0, 1), (.getfield 22, 3), (.aload_n 0, 1), (.getfield 12, 3), (.iload_n 2, 1), (.invokevirtual 286, 3), (.iload_n 1, 1), (.tableswitch 77 0 4 #[33, 35, 46, 54, 69], 33)]),
  (68, [(.iload_n 2, 1), (.ireturn, 1)]),
  (70, [(.aload_n 0, 1), (.getfield 22, 3), (.invokevirtual 290, 3), (.invokestatic 246, 3), (.ireturn, 1)]),
  (81, [(.aload_n 0, 1), (.getfield 22, 3), (.getfield 293, 3), (.ireturn, 1)]),
  (89, [(.aload_n 0, 1), (.getfield 12, 3), (.aload_n 0, 1), (.getfield 22, 3), (.getfield 296, 3), (.invokevirtual 240, 3), (.ireturn, 1)]),
  (104, [(.aload_n 0, 1), (.getfield 22, 3), (.getfield 272, 3), (.ireturn, 1)]),
  (112, [(.aload_n 0, 1), (.getfield 22, 3), (.iload_n 1, 1), (.iconst (-1), 1), (.invokevirtual 280, 3), (.ireturn, 1)])]
def tb_X8_past : tf_Bk := [(0, [(.aload_n 0, 1), (.getfield 12, 3), (.getfield 74, 3), (.iload_n 1, 1), (.iload_n 2, 1), (.invokevirtual 299, 3), (.ireturn, 1)])]
def tb_X8_bill : tf_Bk := [(0, [(.aload_n 0, 1), (.getfield 12, 3), (.invokevirtual 300, 3), (.i2l, 1), (.iload_n 1, 1), (.i2l, 1), (.lmul, 1), (.lstore_n 2, 1), (.lload_n 2, 1), (.ldc2_w 305, 3), (.lcmp, 1), (.ifCond .lt 11, 3), (.lload_n 2, 1), (.ldc2_w 307, 3), (.lcmp, 1), (.ifCond .le 7, 3)]),
  (28, [(.ldc_w 309, 3), (.ireturn, 1)]),
  (32, [(.lload_n 2, 1), (.l2i, 1), (.ireturn, 1)])]
def tb_X8_ledger : tf_Bk := [(0, [(.iload_n 1, 1), (.iconst (-1), 1), (.if_icmp .ge 7, 3), (.sipush (-1000), 3), (.ireturn, 1)]),
  (9, [(.iconst 0, 1), (.istore_n 3, 1), (.aload_n 0, 1), (.getfield 12, 3), (.bipush (-100), 2), (.invokevirtual 310, 3), (.istore 4, 2)]),
  (22, [(.iload_n 3, 1), (.bipush 14, 2), (.if_icmp .ge 51, 3), (.iload 4, 2), (.bipush 99, 2), (.if_icmp .gt 44, 3), (.iload_n 3, 1), (.iload_n 1, 1), (.if_icmp .ne 22, 3), (.iload_n 2, 1), (.ifCond .eq 15, 3), (.aload_n 0, 1), (.getfield 12, 3), (.iload 4, 2), (.invokevirtual 313, 3), (.goto 5, 3)]),
  (56, [(.iload 4, 2)]),
  (58, [(.ireturn, 1)]),
  (59, [(.iinc 3 1, 3), (.aload_n 0, 1), (.getfield 12, 3), (.iload 4, 2), (.invokevirtual 310, 3), (.istore 4, 2), (.goto (-51), 3)]),
  (76, [(.iload_n 1, 1), (.iconst (-1), 1), (.if_icmp .ne 7, 3), (.iload_n 3, 1), (.goto 6, 3)]),
  (85, [(.sipush (-1000), 3)]),
  (88, [(.ireturn, 1)])]
def tb_X8_wide : tf_Bk := [(0, [(.aload_n 0, 1), (.getfield 12, 3), (.iload_n 1, 1), (.iload_n 2, 1), (.invokevirtual 265, 3), (.ifCond .ne 5, 3), (.iconst (-1), 1), (.ireturn, 1)]),
  (14, [(.iconst 0, 1), (.istore_n 3, 1)]),
  (16, [(.iload_n 3, 1), (.aload_n 0, 1), (.getfield 12, 3), (.getfield 175, 3), (.if_icmp .ge 16, 3), (.aload_n 0, 1), (.getfield 47, 3), (.iload_n 3, 1), (.iconst 0, 1), (.iastore, 1), (.iinc 3 1, 3), (.goto (-21), 3)]),
  (40, [(.aload_n 0, 1), (.getfield 47, 3), (.iload_n 1, 1), (.ldc_w 277, 3), (.iastore, 1), (.iconst 1, 1), (.istore_n 3, 1)]),
  (51, [(.iload_n 3, 1), (.aload_n 0, 1), (.getfield 12, 3), (.getfield 175, 3), (.if_icmp .ge 20, 3), (.aload_n 0, 1), (.getfield 12, 3), (.aload_n 0, 1), (.getfield 47, 3), (.invokevirtual 316, 3), (.iinc 3 1, 3), (.goto (-25), 3)]),
  (79, [(.aload_n 0, 1), (.getfield 47, 3), (.iload_n 2, 1), (.iaload, 1), (.ireturn, 1)])]
def tb_X8_trip : tf_Bk := [(0, [(.aload_n 0, 1), (.getfield 29, 3), (.aload_n 0, 1), (.getfield 12, 3), (.invokevirtual 320, 3), (.iload_n 1, 1), (.iconst (-1), 1), (.if_icmp .ne 19, 3), (.iload_n 2, 1), (.ifCond .ne 13, 3), (.aload_n 0, 1), (.getfield 29, 3), (.getfield 323, 3), (.goto 4, 3)]),
  (30, [(.iconst (-1), 1)]),
  (31, [(.ireturn, 1)]),
  (32, [(.aload_n 0, 1), (.getfield 29, 3), (.iload_n 1, 1), (.iload_n 2, 1), (.invokevirtual 324, 3), (.ireturn, 1)])]
def tb_X8_apart : tf_Bk := [(0, [(.aload_n 0, 1), (.iload_n 1, 1), (.invokevirtual 325, 3), (.ifCond .eq 19, 3), (.aload_n 0, 1), (.getfield 12, 3), (.aload_n 0, 1), (.getfield 55, 3), (.iload_n 1, 1), (.aaload, 1), (.invokevirtual 328, 3), (.goto 4, 3)]),
  (24, [(.iconst (-1), 1)]),
  (25, [(.ireturn, 1)])]
def tb_X8_span : tf_Bk := [(0, [(.aload_n 0, 1), (.getfield 12, 3), (.iload_n 1, 1), (.invokevirtual 197, 3), (.ifCond .eq 13, 3), (.aload_n 0, 1), (.getfield 12, 3), (.invokevirtual 178, 3), (.ifCond .le 7, 3)]),
  (21, [(.sipush (-1000), 3), (.ireturn, 1)]),
  (25, [(.iload_n 2, 1), (.ifCond .eq 14, 3), (.aload_n 0, 1), (.getfield 12, 3), (.iload_n 1, 1), (.invokevirtual 331, 3), (.goto 11, 3)]),
  (40, [(.aload_n 0, 1), (.getfield 12, 3), (.iload_n 1, 1), (.invokevirtual 334, 3)]),
  (48, [(.ireturn, 1)])]
def tb_X8_least : tf_Bk := [(0, [(.aload_n 0, 1), (.getfield 16, 3), (.aload_n 0, 1), (.getfield 12, 3), (.invokevirtual 172, 3), (.aload_n 0, 1), (.invokevirtual 337, 3), (.ireturn, 1)])]
def tb_X8_lack : tf_Bk := [(0, [(.iconst 2, 1), (.aload_n 0, 1), (.getfield 12, 3), (.aload_n 0, 1), (.getfield 12, 3), (.invokevirtual 340, 3), (.invokevirtual 343, 3), (.imul, 1), (.ireturn, 1)])]
def tb_X8_cut : tf_Bk := [(0, [(.aload_n 0, 1), (.getfield 12, 3), (.invokevirtual 340, 3), (.ireturn, 1)])]
def tb_X8_steps : tf_Bk := [(0, [(.iload_n 1, 1), (.invokestatic 346, 3), (.ifCond .ne 5, 3), (.iconst (-1), 1), (.ireturn, 1)]),
  (9, [(.aload_n 0, 1), (.getfield 16, 3), (.aload_n 0, 1), (.getfield 12, 3), (.invokevirtual 172, 3), (.aload_n 0, 1), (.getfield 22, 3), (.aload_n 0, 1), (.getfield 16, 3), (.iload_n 1, 1), (.ldc_w 277, 3), (.invokevirtual 136, 3), (.ireturn, 1)])]
def tb_X8_worth : tf_Bk := [(0, [(.aload_n 0, 1), (.getfield 12, 3), (.iload_n 1, 1), (.invokevirtual 197, 3), (.ifCond .eq 12, 3), (.iload_n 2, 1), (.ifCond .lt 8, 3), (.iload_n 2, 1), (.iconst 2, 1), (.if_icmp .le 7, 3)]),
  (20, [(.ldc_w 349, 3), (.ireturn, 1)]),
  (24, [(.aload_n 0, 1), (.getfield 16, 3), (.aload_n 0, 1), (.getfield 12, 3), (.invokevirtual 172, 3), (.aload_n 0, 1), (.invokevirtual 337, 3), (.istore_n 3, 1), (.aload_n 0, 1), (.getfield 16, 3), (.aload_n 0, 1), (.getfield 12, 3), (.invokevirtual 172, 3), (.iload_n 2, 1), (.ifCond .ne 19, 3), (.aload_n 0, 1), (.getfield 16, 3), (.getfield 209, 3), (.iload_n 1, 1), (.dup2, 1), (.iaload, 1), (.iconst 1, 1), (.iadd, 1), (.iastore, 1), (.goto 34, 3)]),
  (71, [(.iload_n 2, 1), (.iconst 1, 1), (.if_icmp .ne 16, 3), (.aload_n 0, 1), (.getfield 16, 3), (.getfield 218, 3), (.iload_n 1, 1), (.iconst 3, 1), (.iastore, 1), (.goto 16, 3)]),
  (89, [(.aload_n 0, 1), (.getfield 16, 3), (.getfield 212, 3), (.iload_n 1, 1), (.dup2, 1), (.iaload, 1), (.iconst 1, 1), (.iadd, 1), (.iastore, 1)]),
  (102, [(.aload_n 0, 1), (.getfield 16, 3), (.iconst 1, 1), (.invokevirtual 70, 3), (.aload_n 0, 1), (.invokevirtual 337, 3), (.iload_n 3, 1), (.invokestatic 350, 3), (.ireturn, 1)])]
def tb_X8_toll : tf_Bk := [(0, [(.aload_n 0, 1), (.getfield 12, 3), (.iload_n 1, 1), (.iload_n 2, 1), (.invokevirtual 265, 3), (.ifCond .ne 7, 3), (.ldc_w 349, 3), (.ireturn, 1)]),
  (16, [(.aload_n 0, 1), (.getfield 16, 3), (.aload_n 0, 1), (.getfield 12, 3), (.invokevirtual 172, 3), (.aload_n 0, 1), (.invokevirtual 337, 3), (.istore_n 3, 1), (.aload_n 0, 1), (.getfield 16, 3), (.aload_n 0, 1), (.getfield 12, 3), (.invokevirtual 172, 3), (.aload_n 0, 1), (.getfield 16, 3), (.getfield 231, 3), (.iload_n 1, 1), (.dup2, 1), (.iaload, 1), (.iconst 1, 1), (.iadd, 1), (.iastore, 1), (.aload_n 0, 1), (.getfield 16, 3), (.getfield 231, 3), (.iload_n 2, 1), (.dup2, 1), (.iaload, 1), (.iconst 1, 1), (.isub, 1), (.iastore, 1), (.aload_n 0, 1), (.getfield 16, 3), (.iconst 1, 1), (.invokevirtual 70, 3), (.aload_n 0, 1), (.invokevirtual 337, 3), (.iload_n 3, 1), (.invokestatic 350, 3), (.ireturn, 1)])]
def tb_X8_image : tf_Bk := [(0, [(.iload_n 1, 1), (.ifCond .lt 8, 3), (.iload_n 1, 1), (.iconst 3, 1), (.if_icmp .lt 5, 3)]),
  (9, [(.iconst 0, 1), (.ireturn, 1)]),
  (11, [(.aload_n 0, 1), (.getfield 55, 3), (.iload_n 1, 1), (.aaload, 1), (.aload_n 0, 1), (.getfield 12, 3), (.invokevirtual 172, 3), (.aload_n 0, 1), (.getfield 58, 3), (.iload_n 1, 1), (.aaload, 1), (.aload_n 0, 1), (.getfield 36, 3), (.invokevirtual 353, 3), (.aload_n 0, 1), (.getfield 62, 3), (.iload_n 1, 1), (.iconst 1, 1), (.bastore, 1), (.iconst 1, 1), (.ireturn, 1)])]
def tb_X8_again : tf_Bk := [(0, [(.aload_n 0, 1), (.iload_n 1, 1), (.invokevirtual 325, 3), (.ifCond .ne 5, 3), (.iconst 0, 1), (.ireturn, 1)]),
  (10, [(.aload_n 0, 1), (.getfield 12, 3), (.aload_n 0, 1), (.getfield 55, 3), (.iload_n 1, 1), (.aaload, 1), (.invokevirtual 172, 3), (.aload_n 0, 1), (.getfield 36, 3), (.aload_n 0, 1), (.getfield 58, 3), (.iload_n 1, 1), (.aaload, 1), (.invokevirtual 353, 3), (.aload_n 0, 1), (.iconst 0, 1), (.putfield 110, 3), (.iconst 1, 1), (.ireturn, 1)])]
def tb_X8_hasImage : tf_Bk := [(0, [(.iload_n 1, 1), (.ifCond .lt 21, 3), (.iload_n 1, 1), (.iconst 3, 1), (.if_icmp .ge 16, 3), (.aload_n 0, 1), (.getfield 62, 3), (.iload_n 1, 1), (.baload, 1), (.ifCond .eq 7, 3), (.iconst 1, 1), (.goto 4, 3)]),
  (22, [(.iconst 0, 1)]),
  (23, [(.ireturn, 1)])]
def tb_X8_takeFault : tf_Bk := [(0, [(.aload_n 0, 1), (.getfield 36, 3), (.iconst 0, 1), (.putfield 86, 3), (.aload_n 0, 1), (.getfield 36, 3), (.aload_n 0, 1), (.getfield 43, 3), (.getfield 97, 3), (.putfield 119, 3), (.aload_n 0, 1), (.getfield 36, 3), (.aload_n 0, 1), (.getfield 43, 3), (.getfield 356, 3), (.putfield 116, 3), (.return_, 1)])]
def tb_X8_saveAhead : tf_Bk := [(0, [(.aload_n 0, 1), (.getfield 51, 3), (.aload_n 0, 1), (.getfield 169, 3), (.aaload, 1), (.aload_n 0, 1), (.getfield 12, 3), (.invokevirtual 172, 3), (.return_, 1)])]
def tb_X8_countAct : tf_Bk := [(0, [(.iload_n 1, 1), (.ifCond .eq 41, 3), (.aload_n 0, 1), (.aload_n 0, 1), (.getfield 169, 3), (.bipush 10, 2), (.if_icmp .ne 7, 3), (.iconst 0, 1), (.goto 9, 3)]),
  (18, [(.aload_n 0, 1), (.getfield 169, 3), (.iconst 1, 1), (.iadd, 1)]),
  (24, [(.putfield 169, 3), (.aload_n 0, 1), (.aload_n 0, 1), (.getfield 110, 3), (.iconst 1, 1), (.iadd, 1), (.bipush 10, 2), (.invokestatic 357, 3), (.putfield 110, 3)]),
  (42, [(.iload_n 1, 1), (.ireturn, 1)])]
def tb_X8_leastOfTrial : tf_Bk := [(0, [(.aload_n 0, 1), (.getfield 22, 3), (.aload_n 0, 1), (.getfield 16, 3), (.iconst 1, 1), (.ldc_w 277, 3), (.invokevirtual 136, 3), (.pop, 1), (.aload_n 0, 1), (.getfield 16, 3), (.invokevirtual 182, 3), (.ifCond .ne 13, 3), (.aload_n 0, 1), (.getfield 16, 3), (.invokevirtual 300, 3), (.goto 6, 3)]),
  (36, [(.ldc_w 349, 3)]),
  (39, [(.ireturn, 1)])]
def tb_X8_less : tf_Bk := [(0, [(.iload_n 1, 1), (.ldc_w 349, 3), (.if_icmp .eq 10, 3), (.iload_n 0, 1), (.ldc_w 349, 3), (.if_icmp .ne 9, 3)]),
  (14, [(.ldc_w 349, 3), (.goto 6, 3)]),
  (20, [(.iload_n 0, 1), (.iload_n 1, 1), (.isub, 1)]),
  (23, [(.ireturn, 1)])]
def tb_X8_byteOf : tf_Bk := [(0, [(.lload_n 0, 1), (.bipush 56, 2), (.bipush 8, 2), (.iload_n 2, 1), (.imul, 1), (.isub, 1), (.lushr, 1), (.l2i, 1), (.sipush 255, 3), (.iand, 1), (.ireturn, 1)])]
def tb_X8_toldEdge : tf_Bk := [(0, [(.iload_n 0, 1), (.bipush 14, 2), (.if_icmp .ge 7, 3), (.iload_n 0, 1), (.goto 10, 3)]),
  (10, [(.bipush 100, 2), (.iload_n 0, 1), (.iadd, 1), (.bipush 14, 2), (.isub, 1)]),
  (17, [(.ireturn, 1)])]
def tb_X8_isRule : tf_Bk := [(0, [(.iload_n 0, 1), (.ifCond .lt 12, 3), (.iload_n 0, 1), (.iconst 2, 1), (.if_icmp .gt 7, 3), (.iconst 1, 1), (.goto 4, 3)]),
  (13, [(.iconst 0, 1)]),
  (14, [(.ireturn, 1)])]
def tb_X4_read : tf_Bk := [(0, [(.aload_n 0, 1), (.iconst 0, 1), (.putfield 34, 3), (.aload_n 0, 1), (.iconst 0, 1), (.putfield 37, 3), (.aload_n 0, 1), (.iconst (-1), 1), (.putfield 9, 3), (.aload_n 0, 1), (.iconst 0, 1), (.putfield 40, 3), (.aload_n 0, 1), (.aload_n 1, 1), (.invokevirtual 43, 3), (.iconst 1, 1), (.istore_n 3, 1), (.iconst 0, 1), (.istore 4, 2)]),
  (30, [(.iload 4, 2), (.bipush 80, 2), (.if_icmp .ge 27, 3), (.iload_n 3, 1), (.ifCond .eq 23, 3), (.aload_n 0, 1), (.getfield 47, 3), (.ifCond .eq 16, 3), (.aload_n 0, 1), (.aload_n 1, 1), (.iload_n 2, 1), (.invokevirtual 50, 3), (.istore_n 3, 1), (.iinc 4 1, 3), (.goto (-28), 3)]),
  (61, [(.iload_n 3, 1), (.ifCond .eq 10, 3), (.aload_n 0, 1), (.getfield 47, 3), (.ifCond .eq 12, 3)]),
  (72, [(.aload_n 0, 1), (.iconst 1, 1), (.aload_n 0, 1), (.getfield 54, 3), (.invokevirtual 57, 3)]),
  (81, [(.return_, 1)])]
def tb_X4_readLine : tf_Bk := [(0, [(.aload_n 0, 1), (.getfield 47, 3), (.iconst 1, 1), (.if_icmp .ne 12, 3), (.aload_n 0, 1), (.aload_n 1, 1), (.iload_n 2, 1), (.invokevirtual 61, 3), (.goto 4, 3)]),
  (17, [(.aconst_null, 1)]),
  (18, [(.astore_n 3, 1), (.aload_n 3, 1), (.ifnull 12, 3), (.aload_n 0, 1), (.getfield 34, 3), (.bipush 80, 2), (.if_icmp .lt 5, 3)]),
  (32, [(.iconst 0, 1), (.ireturn, 1)]),
  (34, [(.aload_n 0, 1), (.getfield 17, 3), (.aload_n 0, 1), (.getfield 34, 3), (.aload_n 3, 1), (.aastore, 1), (.aload_n 0, 1), (.getfield 21, 3), (.aload_n 0, 1), (.getfield 34, 3), (.aload_n 0, 1), (.getfield 54, 3), (.iastore, 1), (.aload_n 0, 1), (.aload_n 1, 1), (.invokevirtual 43, 3), (.iconst 0, 1), (.istore 4, 2)]),
  (65, [(.iload 4, 2), (.aload_n 3, 1), (.iload_n 2, 1), (.invokevirtual 65, 3), (.if_icmp .ge 58, 3), (.aload_n 0, 1), (.getfield 47, 3), (.iconst 2, 1), (.if_icmp .eq 5, 3), (.iconst 0, 1), (.ireturn, 1)]),
  (85, [(.aload_n 0, 1), (.getfield 34, 3), (.iconst 4, 1), (.imul, 1), (.iload 4, 2), (.iadd, 1), (.istore 5, 2), (.aload_n 0, 1), (.getfield 25, 3), (.iload 5, 2), (.aload_n 0, 1), (.aload_n 1, 1), (.invokevirtual 68, 3), (.iastore, 1), (.aload_n 0, 1), (.getfield 28, 3), (.iload 5, 2), (.aload_n 0, 1), (.getfield 54, 3), (.iastore, 1), (.aload_n 0, 1), (.aload_n 1, 1), (.invokevirtual 43, 3), (.iinc 4 1, 3), (.goto (-62), 3)]),
  (130, [(.aload_n 0, 1), (.getfield 47, 3), (.iconst 3, 1), (.if_icmp .eq 5, 3), (.iconst 0, 1), (.ireturn, 1)]),
  (140, [(.aload_n 0, 1), (.aload_n 1, 1), (.invokevirtual 43, 3), (.aload_n 0, 1), (.dup, 1), (.getfield 34, 3), (.iconst 1, 1), (.iadd, 1), (.putfield 34, 3), (.iconst 1, 1), (.ireturn, 1)])]
def tb_X4_blame : tf_Bk := [(0, [(.aload_n 0, 1), (.getfield 37, 3), (.ifCond .ne 13, 3), (.aload_n 0, 1), (.iload_n 1, 1), (.putfield 37, 3), (.aload_n 0, 1), (.iload_n 2, 1), (.putfield 9, 3)]),
  (17, [(.return_, 1)])]
def tb_X4_findToken : tf_Bk := [(0, [(.aload_n 0, 1), (.getfield 40, 3), (.istore_n 2, 1)]),
  (5, [(.iload_n 2, 1), (.aload_n 1, 1), (.getfield 72, 3), (.if_icmp .ge 31, 3), (.aload_n 1, 1), (.getfield 77, 3), (.iload_n 2, 1), (.caload, 1), (.bipush 32, 2), (.if_icmp .eq 14, 3), (.aload_n 1, 1), (.getfield 77, 3), (.iload_n 2, 1), (.caload, 1), (.bipush 10, 2), (.if_icmp .ne 9, 3)]),
  (35, [(.iinc 2 1, 3), (.goto (-33), 3)]),
  (41, [(.aload_n 0, 1), (.iload_n 2, 1), (.putfield 54, 3), (.aload_n 0, 1), (.iload_n 2, 1), (.aload_n 1, 1), (.getfield 72, 3), (.if_icmp .ge 15, 3), (.aload_n 1, 1), (.getfield 77, 3), (.iload_n 2, 1), (.caload, 1), (.invokestatic 81, 3), (.goto 4, 3)]),
  (67, [(.iconst 0, 1)]),
  (68, [(.putfield 47, 3), (.aload_n 0, 1), (.getfield 47, 3), (.iconst 1, 1), (.if_icmp .eq 11, 3), (.aload_n 0, 1), (.getfield 47, 3), (.iconst 2, 1), (.if_icmp .ne 38, 3)]),
  (87, [(.aload_n 0, 1), (.getfield 47, 3), (.istore_n 3, 1)]),
  (92, [(.iload_n 2, 1), (.aload_n 1, 1), (.getfield 72, 3), (.if_icmp .ge 22, 3), (.aload_n 1, 1), (.getfield 77, 3), (.iload_n 2, 1), (.caload, 1), (.invokestatic 81, 3), (.iload_n 3, 1), (.if_icmp .ne 9, 3), (.iinc 2 1, 3), (.goto (-24), 3)]),
  (119, [(.goto 14, 3)]),
  (122, [(.aload_n 0, 1), (.getfield 47, 3), (.iconst 3, 1), (.if_icmp .ne 6, 3), (.iinc 2 1, 3)]),
  (133, [(.aload_n 0, 1), (.iload_n 2, 1), (.putfield 40, 3), (.aload_n 0, 1), (.getfield 47, 3), (.iconst 2, 1), (.if_icmp .ne 21, 3), (.aload_n 0, 1), (.getfield 40, 3), (.aload_n 0, 1), (.getfield 54, 3), (.isub, 1), (.iconst 2, 1), (.if_icmp .le 8, 3), (.aload_n 0, 1), (.iconst 4, 1), (.putfield 47, 3)]),
  (164, [(.return_, 1)])]
def tb_X4_kindOf : tf_Bk := [(0, [(.iload_n 0, 1), (.bipush 97, 2), (.if_icmp .lt 11, 3), (.iload_n 0, 1), (.bipush 122, 2), (.if_icmp .gt 5, 3), (.iconst 1, 1), (.ireturn, 1)]),
  (14, [(.iload_n 0, 1), (.bipush 48, 2), (.if_icmp .lt 11, 3), (.iload_n 0, 1), (.bipush 57, 2), (.if_icmp .gt 5, 3), (.iconst 2, 1), (.ireturn, 1)]),
  (28, [(.iload_n 0, 1), (.bipush 59, 2), (.if_icmp .ne 7, 3), (.iconst 3, 1), (.goto 4, 3)]),
  (38, [(.iconst 4, 1)]),
  (39, [(.ireturn, 1)])]
def tb_X4_verbHere : tf_Bk := [(0, [(.iconst 0, 1), (.istore_n 3, 1)]),
  (2, [(.iload_n 3, 1), (.getstatic 85, 3), (.arraylength, 1), (.if_icmp .ge 42, 3), (.getstatic 85, 3), (.iload_n 3, 1), (.aaload, 1), (.astore 4, 2), (.aload 4, 2), (.iload_n 2, 1), (.invokevirtual 65, 3), (.iconst (-1), 1), (.if_icmp .eq 19, 3), (.aload_n 0, 1), (.aload_n 1, 1), (.aload 4, 2), (.getfield 88, 3), (.invokevirtual 92, 3), (.ifCond .eq 6, 3), (.aload 4, 2), (.areturn, 1)]),
  (43, [(.iinc 3 1, 3), (.goto (-44), 3)]),
  (49, [(.aconst_null, 1), (.areturn, 1)])]
def tb_X4_isHere : tf_Bk := [(0, [(.aload_n 2, 1), (.invokevirtual 96, 3), (.aload_n 0, 1), (.getfield 40, 3), (.aload_n 0, 1), (.getfield 54, 3), (.isub, 1), (.if_icmp .eq 5, 3), (.iconst 0, 1), (.ireturn, 1)]),
  (18, [(.iconst 0, 1), (.istore_n 3, 1)]),
  (20, [(.iload_n 3, 1), (.aload_n 2, 1), (.invokevirtual 96, 3), (.if_icmp .ge 30, 3), (.aload_n 2, 1), (.iload_n 3, 1), (.invokevirtual 101, 3), (.aload_n 1, 1), (.getfield 77, 3), (.aload_n 0, 1), (.getfield 54, 3), (.iload_n 3, 1), (.iadd, 1), (.caload, 1), (.if_icmp .eq 5, 3), (.iconst 0, 1), (.ireturn, 1)]),
  (49, [(.iinc 3 1, 3), (.goto (-32), 3)]),
  (55, [(.iconst 1, 1), (.ireturn, 1)])]
def tb_X4_numberHere : tf_Bk := [(0, [(.iconst 0, 1), (.istore_n 2, 1), (.aload_n 0, 1), (.getfield 54, 3), (.istore_n 3, 1)]),
  (7, [(.iload_n 3, 1), (.aload_n 0, 1), (.getfield 40, 3), (.if_icmp .ge 24, 3), (.iload_n 2, 1), (.bipush 10, 2), (.imul, 1), (.aload_n 1, 1), (.getfield 77, 3), (.iload_n 3, 1), (.caload, 1), (.iadd, 1), (.bipush 48, 2), (.isub, 1), (.istore_n 2, 1), (.iinc 3 1, 3), (.goto (-26), 3)]),
  (36, [(.iload_n 2, 1), (.ireturn, 1)])]
def tb_X4_number : tf_Bk := [(0, [(.aload_n 0, 1), (.getfield 25, 3), (.iload_n 1, 1), (.iconst 4, 1), (.imul, 1), (.iload_n 2, 1), (.iadd, 1), (.iaload, 1), (.ireturn, 1)])]
def tb_X4_want : tf_Bk := [(0, [(.aload_n 0, 1), (.iload_n 1, 1), (.iload_n 2, 1), (.invokevirtual 105, 3), (.istore 6, 2), (.iload 6, 2), (.iload_n 3, 1), (.if_icmp .lt 10, 3), (.iload 6, 2), (.iload 4, 2), (.if_icmp .le 19, 3)]),
  (21, [(.aload_n 0, 1), (.iload 5, 2), (.aload_n 0, 1), (.getfield 28, 3), (.iload_n 1, 1), (.iconst 4, 1), (.imul, 1), (.iload_n 2, 1), (.iadd, 1), (.iaload, 1), (.invokevirtual 57, 3)]),
  (37, [(.return_, 1)])]
def tb_X4_checkGrid : tf_Bk := [(0, [(.iconst 0, 1), (.istore_n 2, 1), (.iconst 0, 1), (.istore_n 3, 1)]),
  (4, [(.iload_n 3, 1), (.aload_n 0, 1), (.getfield 34, 3), (.if_icmp .ge 31, 3), (.aload_n 0, 1), (.iload_n 3, 1), (.iload_n 2, 1), (.invokevirtual 109, 3), (.iload_n 2, 1), (.aload_n 0, 1), (.iload_n 3, 1), (.invokevirtual 112, 3), (.ifCond .eq 7, 3), (.iconst 1, 1), (.goto 4, 3)]),
  (31, [(.iconst 0, 1)]),
  (32, [(.iadd, 1), (.istore_n 2, 1), (.iinc 3 1, 3), (.goto (-33), 3)]),
  (40, [(.aload_n 0, 1), (.getfield 37, 3), (.ifCond .ne 7, 3), (.aload_n 0, 1), (.invokevirtual 116, 3)]),
  (51, [(.aload_n 0, 1), (.getfield 37, 3), (.ifCond .ne 16, 3), (.aload_n 0, 1), (.invokevirtual 119, 3), (.ifCond .eq 9, 3), (.aload_n 0, 1), (.iconst 4, 1), (.iload_n 1, 1), (.invokevirtual 57, 3)]),
  (71, [(.return_, 1)])]
def tb_X4_checkGridLine : tf_Bk := [(0, [(.getstatic 122, 3), (.aload_n 0, 1), (.getfield 17, 3), (.iload_n 1, 1), (.aaload, 1), (.invokevirtual 127, 3), (.iaload, 1), (.tableswitch 149 1 6 #[39, 52, 52, 122, 122, 135], 39)]),
  (52, [(.aload_n 0, 1), (.iload_n 1, 1), (.iconst 0, 1), (.iconst 2, 1), (.bipush 7, 2), (.iconst 2, 1), (.invokevirtual 130, 3), (.goto 100, 3)]),
  (65, [(.iload_n 2, 1), (.bipush 14, 2), (.if_icmp .ne 14, 3), (.aload_n 0, 1), (.iconst 2, 1), (.aload_n 0, 1), (.getfield 21, 3), (.iload_n 1, 1), (.iaload, 1), (.invokevirtual 57, 3)]),
  (82, [(.aload_n 0, 1), (.iload_n 1, 1), (.iconst 0, 1), (.iconst 0, 1), (.bipush 6, 2), (.iconst 2, 1), (.invokevirtual 130, 3), (.aload_n 0, 1), (.iload_n 1, 1), (.iconst 1, 1), (.iconst 0, 1), (.bipush 6, 2), (.iconst 2, 1), (.invokevirtual 130, 3), (.aload_n 0, 1), (.iload_n 1, 1), (.iconst 0, 1), (.invokevirtual 105, 3), (.aload_n 0, 1), (.iload_n 1, 1), (.iconst 1, 1), (.invokevirtual 105, 3), (.if_icmp .ne 48, 3), (.aload_n 0, 1), (.iconst 2, 1), (.aload_n 0, 1), (.getfield 28, 3), (.iload_n 1, 1), (.iconst 4, 1), (.imul, 1), (.iconst 1, 1), (.iadd, 1), (.iaload, 1), (.invokevirtual 57, 3), (.goto 30, 3)]),
  (135, [(.aload_n 0, 1), (.iload_n 1, 1), (.iconst 0, 1), (.iconst 0, 1), (.bipush 6, 2), (.iconst 2, 1), (.invokevirtual 130, 3), (.goto 17, 3)]),
  (148, [(.aload_n 0, 1), (.iload_n 1, 1), (.iconst 0, 1), (.iconst 0, 1), (.iload_n 2, 1), (.iconst 1, 1), (.isub, 1), (.iconst 2, 1), (.invokevirtual 130, 3), (.goto 3, 3)]),
  (162, [(.return_, 1)])]
def tb_X4_checkPointsThere : tf_Bk := [(0, [(.aload_n 0, 1), (.invokevirtual 134, 3), (.iconst 1, 1), (.isub, 1), (.istore_n 1, 1), (.iconst 0, 1), (.istore_n 2, 1)]),
  (9, [(.iload_n 2, 1), (.aload_n 0, 1), (.getfield 34, 3), (.if_icmp .ge 71, 3), (.aload_n 0, 1), (.iload_n 2, 1), (.invokevirtual 112, 3), (.ifCond .eq 24, 3), (.aload_n 0, 1), (.iload_n 2, 1), (.iconst 0, 1), (.iconst 0, 1), (.iload_n 1, 1), (.iconst 3, 1), (.invokevirtual 130, 3), (.aload_n 0, 1), (.iload_n 2, 1), (.iconst 1, 1), (.iconst 0, 1), (.iload_n 1, 1), (.iconst 3, 1), (.invokevirtual 130, 3), (.goto 36, 3)]),
  (46, [(.aload_n 0, 1), (.getfield 17, 3), (.iload_n 2, 1), (.aaload, 1), (.getstatic 137, 3), (.if_acmp .eq 15, 3), (.aload_n 0, 1), (.getfield 17, 3), (.iload_n 2, 1), (.aaload, 1), (.getstatic 141, 3), (.if_acmp .ne 12, 3)]),
  (70, [(.aload_n 0, 1), (.iload_n 2, 1), (.iconst 0, 1), (.iconst 0, 1), (.iload_n 1, 1), (.iconst 3, 1), (.invokevirtual 130, 3)]),
  (79, [(.iinc 2 1, 3), (.goto (-73), 3)]),
  (85, [(.return_, 1)])]
def tb_X4_isArc : tf_Bk := [(0, [(.aload_n 0, 1), (.getfield 17, 3), (.iload_n 1, 1), (.aaload, 1), (.getstatic 144, 3), (.if_acmp .eq 15, 3), (.aload_n 0, 1), (.getfield 17, 3), (.iload_n 1, 1), (.aaload, 1), (.getstatic 147, 3), (.if_acmp .ne 7, 3)]),
  (24, [(.iconst 1, 1), (.goto 4, 3)]),
  (28, [(.iconst 0, 1)]),
  (29, [(.ireturn, 1)])]
def tb_X4_pointsTold : tf_Bk := [(0, [(.iconst 2, 1), (.istore_n 1, 1), (.iconst 0, 1), (.istore_n 2, 1)]),
  (4, [(.iload_n 2, 1), (.aload_n 0, 1), (.getfield 34, 3), (.if_icmp .ge 28, 3), (.aload_n 0, 1), (.getfield 17, 3), (.iload_n 2, 1), (.aaload, 1), (.getstatic 150, 3), (.if_acmp .ne 10, 3), (.aload_n 0, 1), (.iload_n 2, 1), (.iconst 0, 1), (.invokevirtual 105, 3), (.istore_n 1, 1)]),
  (31, [(.iinc 2 1, 3), (.goto (-30), 3)]),
  (37, [(.iload_n 1, 1), (.ireturn, 1)])]
def tb_X4_sumOfSupplies : tf_Bk := [(0, [(.iconst 0, 1), (.istore_n 1, 1)]),
  (2, [(.iload_n 1, 1), (.bipush 7, 2), (.if_icmp .ge 16, 3), (.aload_n 0, 1), (.getfield 31, 3), (.iload_n 1, 1), (.iconst 0, 1), (.iastore, 1), (.iinc 1 1, 3), (.goto (-16), 3)]),
  (21, [(.iconst 0, 1), (.istore_n 1, 1)]),
  (23, [(.iload_n 1, 1), (.aload_n 0, 1), (.getfield 34, 3), (.if_icmp .ge 71, 3), (.aload_n 0, 1), (.getfield 17, 3), (.iload_n 1, 1), (.aaload, 1), (.getstatic 137, 3), (.if_acmp .ne 23, 3), (.aload_n 0, 1), (.getfield 31, 3), (.aload_n 0, 1), (.iload_n 1, 1), (.iconst 0, 1), (.invokevirtual 105, 3), (.aload_n 0, 1), (.iload_n 1, 1), (.iconst 1, 1), (.invokevirtual 105, 3), (.iastore, 1), (.goto 33, 3)]),
  (63, [(.aload_n 0, 1), (.getfield 17, 3), (.iload_n 1, 1), (.aaload, 1), (.getstatic 141, 3), (.if_acmp .ne 21, 3), (.aload_n 0, 1), (.getfield 31, 3), (.aload_n 0, 1), (.iload_n 1, 1), (.iconst 0, 1), (.invokevirtual 105, 3), (.aload_n 0, 1), (.iload_n 1, 1), (.iconst 1, 1), (.invokevirtual 105, 3), (.ineg, 1), (.iastore, 1)]),
  (93, [(.iinc 1 1, 3), (.goto (-73), 3)]),
  (99, [(.iconst 0, 1), (.istore_n 1, 1), (.iconst 0, 1), (.istore_n 2, 1)]),
  (103, [(.iload_n 2, 1), (.bipush 7, 2), (.if_icmp .ge 18, 3), (.iload_n 1, 1), (.aload_n 0, 1), (.getfield 31, 3), (.iload_n 2, 1), (.iaload, 1), (.iadd, 1), (.istore_n 1, 1), (.iinc 2 1, 3), (.goto (-18), 3)]),
  (124, [(.iload_n 1, 1), (.ireturn, 1)])]
def tb_X4_checkOrders : tf_Bk := [(0, [(.iconst 0, 1), (.istore_n 1, 1)]),
  (2, [(.iload_n 1, 1), (.aload_n 0, 1), (.getfield 34, 3), (.if_icmp .ge 130, 3), (.getstatic 122, 3), (.aload_n 0, 1), (.getfield 17, 3), (.iload_n 1, 1), (.aaload, 1), (.invokevirtual 127, 3), (.iaload, 1), (.tableswitch 108 3 11 #[95, 108, 108, 95, 49, 62, 95, 95, 95], 49)]),
  (72, [(.aload_n 0, 1), (.iload_n 1, 1), (.iconst 0, 1), (.iconst 1, 1), (.bipush 60, 2), (.iconst 2, 1), (.invokevirtual 130, 3), (.goto 49, 3)]),
  (85, [(.aload_n 0, 1), (.iload_n 1, 1), (.iconst 0, 1), (.iconst 0, 1), (.bipush 6, 2), (.iconst 2, 1), (.invokevirtual 130, 3), (.aload_n 0, 1), (.iload_n 1, 1), (.iconst 1, 1), (.iconst 0, 1), (.bipush 6, 2), (.iconst 2, 1), (.invokevirtual 130, 3), (.aload_n 0, 1), (.iload_n 1, 1), (.iconst 2, 1), (.iconst 1, 1), (.bipush 99, 2), (.iconst 2, 1), (.invokevirtual 130, 3), (.goto 16, 3)]),
  (118, [(.aload_n 0, 1), (.iload_n 1, 1), (.iconst 0, 1), (.iconst 0, 1), (.bipush 13, 2), (.iconst 2, 1), (.invokevirtual 130, 3), (.goto 3, 3)]),
  (131, [(.iinc 1 1, 3), (.goto (-132), 3)]),
  (137, [(.return_, 1)])]
def tb_X4_fill : tf_Bk := [(0, [(.aload_n 1, 1), (.aload_n 0, 1), (.invokevirtual 134, 3), (.invokevirtual 153, 3), (.iconst 0, 1), (.istore_n 2, 1)]),
  (10, [(.iload_n 2, 1), (.aload_n 1, 1), (.getfield 159, 3), (.if_icmp .ge 21, 3), (.aload_n 1, 1), (.getfield 162, 3), (.iload_n 2, 1), (.aload_n 0, 1), (.getfield 31, 3), (.iload_n 2, 1), (.iaload, 1), (.iastore, 1), (.iinc 2 1, 3), (.goto (-23), 3)]),
  (36, [(.iconst 0, 1), (.istore_n 2, 1)]),
  (38, [(.iload_n 2, 1), (.aload_n 0, 1), (.getfield 34, 3), (.if_icmp .ge 15, 3), (.aload_n 0, 1), (.iload_n 2, 1), (.aload_n 1, 1), (.invokevirtual 165, 3), (.iinc 2 1, 3), (.goto (-17), 3)]),
  (58, [(.return_, 1)])]
def tb_X4_fillLine : tf_Bk := [(0, [(.getstatic 122, 3), (.aload_n 0, 1), (.getfield 17, 3), (.iload_n 1, 1), (.aaload, 1), (.invokevirtual 127, 3), (.iaload, 1), (.tableswitch 169 2 14 #[67, 98, 169, 169, 130, 169, 169, 169, 169, 169, 145, 153, 161], 67)]),
  (80, [(.aload_n 2, 1), (.aload_n 0, 1), (.iload_n 1, 1), (.iconst 0, 1), (.invokevirtual 105, 3), (.aload_n 0, 1), (.iload_n 1, 1), (.iconst 1, 1), (.invokevirtual 105, 3), (.aload_n 0, 1), (.iload_n 1, 1), (.iconst 2, 1), (.invokevirtual 105, 3), (.aload_n 0, 1), (.iload_n 1, 1), (.iconst 3, 1), (.invokevirtual 105, 3), (.invokevirtual 169, 3), (.goto 74, 3)]),
  (111, [(.aload_n 2, 1), (.aload_n 0, 1), (.iload_n 1, 1), (.iconst 0, 1), (.invokevirtual 105, 3), (.aload_n 0, 1), (.iload_n 1, 1), (.iconst 1, 1), (.invokevirtual 105, 3), (.aload_n 0, 1), (.iload_n 1, 1), (.iconst 2, 1), (.invokevirtual 105, 3), (.aload_n 0, 1), (.iload_n 1, 1), (.iconst 3, 1), (.invokevirtual 105, 3), (.ineg, 1), (.invokevirtual 169, 3), (.goto 42, 3)]),
  (143, [(.aload_n 2, 1), (.getfield 173, 3), (.aload_n 0, 1), (.iload_n 1, 1), (.iconst 0, 1), (.invokevirtual 105, 3), (.iconst 3, 1), (.iastore, 1), (.goto 27, 3)]),
  (158, [(.aload_n 2, 1), (.iconst 0, 1), (.putfield 176, 3), (.goto 19, 3)]),
  (166, [(.aload_n 2, 1), (.iconst 1, 1), (.putfield 176, 3), (.goto 11, 3)]),
  (174, [(.aload_n 2, 1), (.iconst 2, 1), (.putfield 176, 3), (.goto 3, 3)]),
  (182, [(.return_, 1)])]
def tb_X4_obey : tf_Bk := [(0, [(.getstatic 122, 3), (.aload_n 0, 1), (.getfield 17, 3), (.iload_n 1, 1), (.aaload, 1), (.invokevirtual 127, 3), (.iaload, 1), (.tableswitch 215 3 15 #[172, 215, 215, 114, 67, 91, 126, 138, 155, 197, 203, 209, 190], 67)]),
  (80, [(.aload_n 3, 1), (.aload_n 2, 1), (.aload_n 2, 1), (.getfield 176, 3), (.aload_n 0, 1), (.iload_n 1, 1), (.iconst 0, 1), (.invokevirtual 105, 3), (.invokevirtual 179, 3), (.ifCond .le 7, 3), (.iconst 1, 1), (.goto 4, 3)]),
  (102, [(.iconst 0, 1)]),
  (103, [(.ireturn, 1)]),
  (104, [(.aload_n 2, 1), (.aload_n 0, 1), (.iload_n 1, 1), (.iconst 0, 1), (.invokevirtual 105, 3), (.aload_n 0, 1), (.iload_n 1, 1), (.iconst 1, 1), (.invokevirtual 105, 3), (.aload_n 0, 1), (.iload_n 1, 1), (.iconst 2, 1), (.invokevirtual 105, 3), (.invokevirtual 185, 3), (.ireturn, 1)]),
  (127, [(.aload_n 2, 1), (.aload_n 0, 1), (.iload_n 1, 1), (.iconst 0, 1), (.invokevirtual 105, 3), (.iconst 0, 1), (.invokevirtual 189, 3), (.ireturn, 1)]),
  (139, [(.aload_n 2, 1), (.aload_n 0, 1), (.iload_n 1, 1), (.iconst 0, 1), (.invokevirtual 105, 3), (.iconst 1, 1), (.invokevirtual 189, 3), (.ireturn, 1)]),
  (151, [(.aload_n 2, 1), (.aload_n 0, 1), (.iload_n 1, 1), (.iconst 0, 1), (.invokevirtual 105, 3), (.aload_n 0, 1), (.iload_n 1, 1), (.iconst 1, 1), (.invokevirtual 105, 3), (.invokevirtual 193, 3), (.ireturn, 1)]),
  (168, [(.aload_n 2, 1), (.aload_n 0, 1), (.iload_n 1, 1), (.iconst 0, 1), (.invokevirtual 105, 3), (.aload_n 0, 1), (.iload_n 1, 1), (.iconst 1, 1), (.invokevirtual 105, 3), (.invokevirtual 197, 3), (.ireturn, 1)]),
  (185, [(.aload_n 2, 1), (.aload_n 0, 1), (.iload_n 1, 1), (.iconst 0, 1), (.invokevirtual 105, 3), (.aload_n 0, 1), (.iload_n 1, 1), (.iconst 1, 1), (.invokevirtual 105, 3), (.ineg, 1), (.invokevirtual 197, 3), (.ireturn, 1)]),
  (203, [(.aload_n 2, 1), (.iconst 0, 1), (.invokevirtual 200, 3), (.iconst 1, 1), (.ireturn, 1)]),
  (210, [(.aload_n 2, 1), (.iconst 0, 1), (.invokevirtual 204, 3), (.ireturn, 1)]),
  (216, [(.aload_n 2, 1), (.iconst 1, 1), (.invokevirtual 204, 3), (.ireturn, 1)]),
  (222, [(.aload_n 2, 1), (.iconst 2, 1), (.invokevirtual 204, 3), (.ireturn, 1)]),
  (228, [(.iconst 0, 1), (.ireturn, 1)])]
def tb_X7_numbers : tf_Bk := [(0, [(.iload_n 1, 1), (.ifCond .eq 10, 3), (.aload_n 0, 1), (.getfield 78, 3), (.goto 7, 3)]),
  (11, [(.aload_n 0, 1), (.getfield 74, 3)]),
  (15, [(.ireturn, 1)])]
def tb_J6_bitCount_0f7a4 : tf_Bk := [(0, [(.iload_n 0, 1), (.iload_n 0, 1), (.iconst 1, 1), (.iushr, 1), (.ldc_w 265, 3), (.iand, 1), (.isub, 1), (.istore_n 0, 1), (.iload_n 0, 1), (.ldc_w 266, 3), (.iand, 1), (.iload_n 0, 1), (.iconst 2, 1), (.iushr, 1), (.ldc_w 266, 3), (.iand, 1), (.iadd, 1), (.istore_n 0, 1), (.iload_n 0, 1), (.iload_n 0, 1), (.iconst 4, 1), (.iushr, 1), (.iadd, 1), (.ldc_w 267, 3), (.iand, 1), (.istore_n 0, 1), (.iload_n 0, 1), (.iload_n 0, 1), (.bipush 8, 2), (.iushr, 1), (.iadd, 1), (.istore_n 0, 1), (.iload_n 0, 1), (.iload_n 0, 1), (.bipush 16, 2), (.iushr, 1), (.iadd, 1), (.istore_n 0, 1), (.iload_n 0, 1), (.bipush 63, 2), (.iand, 1), (.ireturn, 1)])]
