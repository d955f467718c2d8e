theorem dX10_within_0 : decode cX10_within 0 = .ok (.iload_n 0, 1) := by decide +kernel
theorem dX10_within_1 : decode cX10_within 1 = .ok (.iload_n 1, 1) := by decide +kernel
theorem dX10_within_2 : decode cX10_within 2 = .ok (.if_icmp .lt 12, 3) := by decide +kernel
theorem dX10_within_5 : decode cX10_within 5 = .ok (.iload_n 0, 1) := by decide +kernel
theorem dX10_within_6 : decode cX10_within 6 = .ok (.iload_n 2, 1) := by decide +kernel
theorem dX10_within_7 : decode cX10_within 7 = .ok (.if_icmp .gt 7, 3) := by decide +kernel
theorem dX10_within_10 : decode cX10_within 10 = .ok (.iconst 1, 1) := by decide +kernel
theorem dX10_within_11 : decode cX10_within 11 = .ok (.goto 4, 3) := by decide +kernel
theorem dX10_within_14 : decode cX10_within 14 = .ok (.iconst 0, 1) := by decide +kernel
theorem dX10_within_15 : decode cX10_within 15 = .ok (.ireturn, 1) := by decide +kernel
theorem dX10_of_0 : decode cX10_of 0 = .ok (.aload_n 0, 1) := by decide +kernel
theorem dX10_of_1 : decode cX10_of 1 = .ok (.getfield 7, 3) := by decide +kernel
theorem dX10_of_4 : decode cX10_of 4 = .ok (.bipush 62, 2) := by decide +kernel
theorem dX10_of_6 : decode cX10_of 6 = .ok (.sipush 378, 3) := by decide +kernel
theorem dX10_of_9 : decode cX10_of 9 = .ok (.iload_n 1, 1) := by decide +kernel
theorem dX10_of_10 : decode cX10_of 10 = .ok (.imul, 1) := by decide +kernel
theorem dX10_of_11 : decode cX10_of 11 = .ok (.iadd, 1) := by decide +kernel
theorem dX10_of_12 : decode cX10_of 12 = .ok (.iload_n 2, 1) := by decide +kernel
theorem dX10_of_13 : decode cX10_of 13 = .ok (.iadd, 1) := by decide +kernel
theorem dX10_of_14 : decode cX10_of 14 = .ok (.iaload, 1) := by decide +kernel
theorem dX10_of_15 : decode cX10_of 15 = .ok (.ireturn, 1) := by decide +kernel
theorem dX10_sets_0 : decode cX10_sets 0 = .ok (.aload_n 0, 1) := by decide +kernel
theorem dX10_sets_1 : decode cX10_sets 1 = .ok (.getfield 7, 3) := by decide +kernel
theorem dX10_sets_4 : decode cX10_sets 4 = .ok (.bipush 62, 2) := by decide +kernel
theorem dX10_sets_6 : decode cX10_sets 6 = .ok (.sipush 378, 3) := by decide +kernel
theorem dX10_sets_9 : decode cX10_sets 9 = .ok (.iload_n 1, 1) := by decide +kernel
theorem dX10_sets_10 : decode cX10_sets 10 = .ok (.imul, 1) := by decide +kernel
theorem dX10_sets_11 : decode cX10_sets 11 = .ok (.iadd, 1) := by decide +kernel
theorem dX10_sets_12 : decode cX10_sets 12 = .ok (.iload_n 2, 1) := by decide +kernel
theorem dX10_sets_13 : decode cX10_sets 13 = .ok (.iadd, 1) := by decide +kernel
theorem dX10_sets_14 : decode cX10_sets 14 = .ok (.iload_n 3, 1) := by decide +kernel
theorem dX10_sets_15 : decode cX10_sets 15 = .ok (.iastore, 1) := by decide +kernel
theorem dX10_sets_16 : decode cX10_sets 16 = .ok (.return_, 1) := by decide +kernel
theorem dX10_isMember_0 : decode cX10_isMember 0 = .ok (.aload_n 0, 1) := by decide +kernel
theorem dX10_isMember_1 : decode cX10_isMember 1 = .ok (.iload_n 1, 1) := by decide +kernel
theorem dX10_isMember_2 : decode cX10_isMember 2 = .ok (.bipush 70, 2) := by decide +kernel
theorem dX10_isMember_4 : decode cX10_isMember 4 = .ok (.iload_n 2, 1) := by decide +kernel
theorem dX10_isMember_5 : decode cX10_isMember 5 = .ok (.iadd, 1) := by decide +kernel
theorem dX10_isMember_6 : decode cX10_isMember 6 = .ok (.invokevirtual 190, 3) := by decide +kernel
theorem dX10_isMember_9 : decode cX10_isMember 9 = .ok (.istore_n 3, 1) := by decide +kernel
theorem dX10_isMember_10 : decode cX10_isMember 10 = .ok (.iload_n 3, 1) := by decide +kernel
theorem dX10_isMember_11 : decode cX10_isMember 11 = .ok (.aload_n 0, 1) := by decide +kernel
theorem dX10_isMember_12 : decode cX10_isMember 12 = .ok (.iload_n 1, 1) := by decide +kernel
theorem dX10_isMember_13 : decode cX10_isMember 13 = .ok (.iconst 0, 1) := by decide +kernel
theorem dX10_isMember_14 : decode cX10_isMember 14 = .ok (.invokevirtual 190, 3) := by decide +kernel
theorem dX10_isMember_17 : decode cX10_isMember 17 = .ok (.if_icmp .ge 20, 3) := by decide +kernel
theorem dX10_isMember_20 : decode cX10_isMember 20 = .ok (.aload_n 0, 1) := by decide +kernel
theorem dX10_isMember_21 : decode cX10_isMember 21 = .ok (.iload_n 1, 1) := by decide +kernel
theorem dX10_isMember_22 : decode cX10_isMember 22 = .ok (.bipush 6, 2) := by decide +kernel
theorem dX10_isMember_24 : decode cX10_isMember 24 = .ok (.iload_n 3, 1) := by decide +kernel
theorem dX10_isMember_25 : decode cX10_isMember 25 = .ok (.iadd, 1) := by decide +kernel
theorem dX10_isMember_26 : decode cX10_isMember 26 = .ok (.invokevirtual 190, 3) := by decide +kernel
theorem dX10_isMember_29 : decode cX10_isMember 29 = .ok (.iload_n 2, 1) := by decide +kernel
theorem dX10_isMember_30 : decode cX10_isMember 30 = .ok (.if_icmp .ne 7, 3) := by decide +kernel
theorem dX10_isMember_33 : decode cX10_isMember 33 = .ok (.iconst 1, 1) := by decide +kernel
theorem dX10_isMember_34 : decode cX10_isMember 34 = .ok (.goto 4, 3) := by decide +kernel
theorem dX10_isMember_37 : decode cX10_isMember 37 = .ok (.iconst 0, 1) := by decide +kernel
theorem dX10_isMember_38 : decode cX10_isMember 38 = .ok (.ireturn, 1) := by decide +kernel
theorem dX10_ones_0 : decode cX10_ones 0 = .ok (.iconst 0, 1) := by decide +kernel
theorem dX10_ones_1 : decode cX10_ones 1 = .ok (.istore_n 2, 1) := by decide +kernel
theorem dX10_ones_2 : decode cX10_ones 2 = .ok (.lload_n 0, 1) := by decide +kernel
theorem dX10_ones_3 : decode cX10_ones 3 = .ok (.lstore_n 3, 1) := by decide +kernel
theorem dX10_ones_4 : decode cX10_ones 4 = .ok (.lload_n 3, 1) := by decide +kernel
theorem dX10_ones_5 : decode cX10_ones 5 = .ok (.lconst 0, 1) := by decide +kernel
theorem dX10_ones_6 : decode cX10_ones 6 = .ok (.lcmp, 1) := by decide +kernel
theorem dX10_ones_7 : decode cX10_ones 7 = .ok (.ifCond .eq 15, 3) := by decide +kernel
theorem dX10_ones_10 : decode cX10_ones 10 = .ok (.iinc 2 1, 3) := by decide +kernel
theorem dX10_ones_13 : decode cX10_ones 13 = .ok (.lload_n 3, 1) := by decide +kernel
theorem dX10_ones_14 : decode cX10_ones 14 = .ok (.lload_n 3, 1) := by decide +kernel
theorem dX10_ones_15 : decode cX10_ones 15 = .ok (.lconst 1, 1) := by decide +kernel
theorem dX10_ones_16 : decode cX10_ones 16 = .ok (.lsub, 1) := by decide +kernel
theorem dX10_ones_17 : decode cX10_ones 17 = .ok (.land, 1) := by decide +kernel
theorem dX10_ones_18 : decode cX10_ones 18 = .ok (.lstore_n 3, 1) := by decide +kernel
theorem dX10_ones_19 : decode cX10_ones 19 = .ok (.goto (-15), 3) := by decide +kernel
theorem dX10_ones_22 : decode cX10_ones 22 = .ok (.iload_n 2, 1) := by decide +kernel
theorem dX10_ones_23 : decode cX10_ones 23 = .ok (.ireturn, 1) := by decide +kernel
theorem dX10_copies_0 : decode cX10_copies 0 = .ok (.iconst 0, 1) := by decide +kernel
theorem dX10_copies_1 : decode cX10_copies 1 = .ok (.istore 4, 2) := by decide +kernel
theorem dX10_copies_3 : decode cX10_copies 3 = .ok (.iload 4, 2) := by decide +kernel
theorem dX10_copies_5 : decode cX10_copies 5 = .ok (.sipush 1952, 3) := by decide +kernel
theorem dX10_copies_8 : decode cX10_copies 8 = .ok (.if_icmp .ge 21, 3) := by decide +kernel
theorem dX10_copies_11 : decode cX10_copies 11 = .ok (.aload_n 2, 1) := by decide +kernel
theorem dX10_copies_12 : decode cX10_copies 12 = .ok (.iload_n 3, 1) := by decide +kernel
theorem dX10_copies_13 : decode cX10_copies 13 = .ok (.iload 4, 2) := by decide +kernel
theorem dX10_copies_15 : decode cX10_copies 15 = .ok (.iadd, 1) := by decide +kernel
theorem dX10_copies_16 : decode cX10_copies 16 = .ok (.aload_n 0, 1) := by decide +kernel
theorem dX10_copies_17 : decode cX10_copies 17 = .ok (.iload_n 1, 1) := by decide +kernel
theorem dX10_copies_18 : decode cX10_copies 18 = .ok (.iload 4, 2) := by decide +kernel
theorem dX10_copies_20 : decode cX10_copies 20 = .ok (.iadd, 1) := by decide +kernel
theorem dX10_copies_21 : decode cX10_copies 21 = .ok (.iaload, 1) := by decide +kernel
theorem dX10_copies_22 : decode cX10_copies 22 = .ok (.iastore, 1) := by decide +kernel
theorem dX10_copies_23 : decode cX10_copies 23 = .ok (.iinc 4 1, 3) := by decide +kernel
theorem dX10_copies_26 : decode cX10_copies 26 = .ok (.goto (-23), 3) := by decide +kernel
theorem dX10_copies_29 : decode cX10_copies 29 = .ok (.return_, 1) := by decide +kernel
theorem dX10_thrown_0 : decode cX10_thrown 0 = .ok (.aload_n 0, 1) := by decide +kernel
theorem dX10_thrown_1 : decode cX10_thrown 1 = .ok (.getfield 44, 3) := by decide +kernel
theorem dX10_thrown_4 : decode cX10_thrown 4 = .ok (.ireturn, 1) := by decide +kernel
theorem dX10_lay_0 : decode cX10_lay 0 = .ok (.aload_n 0, 1) := by decide +kernel
theorem dX10_lay_1 : decode cX10_lay 1 = .ok (.iload_n 1, 1) := by decide +kernel
theorem dX10_lay_2 : decode cX10_lay 2 = .ok (.bipush 6, 2) := by decide +kernel
theorem dX10_lay_4 : decode cX10_lay 4 = .ok (.iload_n 3, 1) := by decide +kernel
theorem dX10_lay_5 : decode cX10_lay 5 = .ok (.iadd, 1) := by decide +kernel
theorem dX10_lay_6 : decode cX10_lay 6 = .ok (.iload_n 2, 1) := by decide +kernel
theorem dX10_lay_7 : decode cX10_lay 7 = .ok (.invokevirtual 194, 3) := by decide +kernel
theorem dX10_lay_10 : decode cX10_lay 10 = .ok (.aload_n 0, 1) := by decide +kernel
theorem dX10_lay_11 : decode cX10_lay 11 = .ok (.iload_n 1, 1) := by decide +kernel
theorem dX10_lay_12 : decode cX10_lay 12 = .ok (.bipush 70, 2) := by decide +kernel
theorem dX10_lay_14 : decode cX10_lay 14 = .ok (.iload_n 2, 1) := by decide +kernel
theorem dX10_lay_15 : decode cX10_lay 15 = .ok (.iadd, 1) := by decide +kernel
theorem dX10_lay_16 : decode cX10_lay 16 = .ok (.iload_n 3, 1) := by decide +kernel
theorem dX10_lay_17 : decode cX10_lay 17 = .ok (.invokevirtual 194, 3) := by decide +kernel
theorem dX10_lay_20 : decode cX10_lay 20 = .ok (.aload_n 0, 1) := by decide +kernel
theorem dX10_lay_21 : decode cX10_lay 21 = .ok (.getfield 7, 3) := by decide +kernel
theorem dX10_lay_24 : decode cX10_lay 24 = .ok (.iconst 5, 1) := by decide +kernel
theorem dX10_lay_25 : decode cX10_lay 25 = .ok (.dup2, 1) := by decide +kernel
theorem dX10_lay_26 : decode cX10_lay 26 = .ok (.iaload, 1) := by decide +kernel
theorem dX10_lay_27 : decode cX10_lay 27 = .ok (.iconst 2, 1) := by decide +kernel
theorem dX10_lay_28 : decode cX10_lay 28 = .ok (.iadd, 1) := by decide +kernel
theorem dX10_lay_29 : decode cX10_lay 29 = .ok (.iastore, 1) := by decide +kernel
theorem dX10_lay_30 : decode cX10_lay 30 = .ok (.return_, 1) := by decide +kernel
