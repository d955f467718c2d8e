theorem dX0_init_0 : decode cX0_init 0 = .ok (.aload_n 0, 1) := by decide +kernel
theorem dX0_init_1 : decode cX0_init 1 = .ok (.invokespecial 3, 3) := by decide +kernel
theorem dX0_init_4 : decode cX0_init 4 = .ok (.return_, 1) := by decide +kernel
theorem dX0_begin_0 : decode cX0_begin 0 = .ok (.aload_n 0, 1) := by decide +kernel
theorem dX0_begin_1 : decode cX0_begin 1 = .ok (.iconst 1, 1) := by decide +kernel
theorem dX0_begin_2 : decode cX0_begin 2 = .ok (.putfield 9, 3) := by decide +kernel
theorem dX0_begin_5 : decode cX0_begin 5 = .ok (.aload_n 0, 1) := by decide +kernel
theorem dX0_begin_6 : decode cX0_begin 6 = .ok (.iconst 1, 1) := by decide +kernel
theorem dX0_begin_7 : decode cX0_begin 7 = .ok (.putfield 15, 3) := by decide +kernel
theorem dX0_begin_10 : decode cX0_begin 10 = .ok (.aload_n 0, 1) := by decide +kernel
theorem dX0_begin_11 : decode cX0_begin 11 = .ok (.iload_n 2, 1) := by decide +kernel
theorem dX0_begin_12 : decode cX0_begin 12 = .ok (.putfield 18, 3) := by decide +kernel
theorem dX0_begin_15 : decode cX0_begin 15 = .ok (.aload_n 0, 1) := by decide +kernel
theorem dX0_begin_16 : decode cX0_begin 16 = .ok (.iload_n 1, 1) := by decide +kernel
theorem dX0_begin_17 : decode cX0_begin 17 = .ok (.putfield 21, 3) := by decide +kernel
theorem dX0_begin_20 : decode cX0_begin 20 = .ok (.aload_n 0, 1) := by decide +kernel
theorem dX0_begin_21 : decode cX0_begin 21 = .ok (.iconst 0, 1) := by decide +kernel
theorem dX0_begin_22 : decode cX0_begin 22 = .ok (.putfield 25, 3) := by decide +kernel
theorem dX0_begin_25 : decode cX0_begin 25 = .ok (.aload_n 0, 1) := by decide +kernel
theorem dX0_begin_26 : decode cX0_begin 26 = .ok (.iload_n 3, 1) := by decide +kernel
theorem dX0_begin_27 : decode cX0_begin 27 = .ok (.putfield 28, 3) := by decide +kernel
theorem dX0_begin_30 : decode cX0_begin 30 = .ok (.aload_n 0, 1) := by decide +kernel
theorem dX0_begin_31 : decode cX0_begin 31 = .ok (.iconst 0, 1) := by decide +kernel
theorem dX0_begin_32 : decode cX0_begin 32 = .ok (.putfield 31, 3) := by decide +kernel
theorem dX0_begin_35 : decode cX0_begin 35 = .ok (.aload_n 0, 1) := by decide +kernel
theorem dX0_begin_36 : decode cX0_begin 36 = .ok (.iconst (-1), 1) := by decide +kernel
theorem dX0_begin_37 : decode cX0_begin 37 = .ok (.putfield 34, 3) := by decide +kernel
theorem dX0_begin_40 : decode cX0_begin 40 = .ok (.return_, 1) := by decide +kernel
theorem dX0_copyFrom_0 : decode cX0_copyFrom 0 = .ok (.aload_n 0, 1) := by decide +kernel
theorem dX0_copyFrom_1 : decode cX0_copyFrom 1 = .ok (.aload_n 1, 1) := by decide +kernel
theorem dX0_copyFrom_2 : decode cX0_copyFrom 2 = .ok (.getfield 9, 3) := by decide +kernel
theorem dX0_copyFrom_5 : decode cX0_copyFrom 5 = .ok (.putfield 9, 3) := by decide +kernel
theorem dX0_copyFrom_8 : decode cX0_copyFrom 8 = .ok (.aload_n 0, 1) := by decide +kernel
theorem dX0_copyFrom_9 : decode cX0_copyFrom 9 = .ok (.aload_n 1, 1) := by decide +kernel
theorem dX0_copyFrom_10 : decode cX0_copyFrom 10 = .ok (.getfield 15, 3) := by decide +kernel
theorem dX0_copyFrom_13 : decode cX0_copyFrom 13 = .ok (.putfield 15, 3) := by decide +kernel
theorem dX0_copyFrom_16 : decode cX0_copyFrom 16 = .ok (.aload_n 0, 1) := by decide +kernel
theorem dX0_copyFrom_17 : decode cX0_copyFrom 17 = .ok (.aload_n 1, 1) := by decide +kernel
theorem dX0_copyFrom_18 : decode cX0_copyFrom 18 = .ok (.getfield 18, 3) := by decide +kernel
theorem dX0_copyFrom_21 : decode cX0_copyFrom 21 = .ok (.putfield 18, 3) := by decide +kernel
theorem dX0_copyFrom_24 : decode cX0_copyFrom 24 = .ok (.aload_n 0, 1) := by decide +kernel
theorem dX0_copyFrom_25 : decode cX0_copyFrom 25 = .ok (.aload_n 1, 1) := by decide +kernel
theorem dX0_copyFrom_26 : decode cX0_copyFrom 26 = .ok (.getfield 21, 3) := by decide +kernel
theorem dX0_copyFrom_29 : decode cX0_copyFrom 29 = .ok (.putfield 21, 3) := by decide +kernel
theorem dX0_copyFrom_32 : decode cX0_copyFrom 32 = .ok (.aload_n 0, 1) := by decide +kernel
theorem dX0_copyFrom_33 : decode cX0_copyFrom 33 = .ok (.aload_n 1, 1) := by decide +kernel
theorem dX0_copyFrom_34 : decode cX0_copyFrom 34 = .ok (.getfield 25, 3) := by decide +kernel
theorem dX0_copyFrom_37 : decode cX0_copyFrom 37 = .ok (.putfield 25, 3) := by decide +kernel
theorem dX0_copyFrom_40 : decode cX0_copyFrom 40 = .ok (.aload_n 0, 1) := by decide +kernel
theorem dX0_copyFrom_41 : decode cX0_copyFrom 41 = .ok (.aload_n 1, 1) := by decide +kernel
theorem dX0_copyFrom_42 : decode cX0_copyFrom 42 = .ok (.getfield 28, 3) := by decide +kernel
theorem dX0_copyFrom_45 : decode cX0_copyFrom 45 = .ok (.putfield 28, 3) := by decide +kernel
theorem dX0_copyFrom_48 : decode cX0_copyFrom 48 = .ok (.aload_n 0, 1) := by decide +kernel
theorem dX0_copyFrom_49 : decode cX0_copyFrom 49 = .ok (.aload_n 1, 1) := by decide +kernel
theorem dX0_copyFrom_50 : decode cX0_copyFrom 50 = .ok (.getfield 31, 3) := by decide +kernel
theorem dX0_copyFrom_53 : decode cX0_copyFrom 53 = .ok (.putfield 31, 3) := by decide +kernel
theorem dX0_copyFrom_56 : decode cX0_copyFrom 56 = .ok (.aload_n 0, 1) := by decide +kernel
theorem dX0_copyFrom_57 : decode cX0_copyFrom 57 = .ok (.aload_n 1, 1) := by decide +kernel
theorem dX0_copyFrom_58 : decode cX0_copyFrom 58 = .ok (.getfield 34, 3) := by decide +kernel
theorem dX0_copyFrom_61 : decode cX0_copyFrom 61 = .ok (.putfield 34, 3) := by decide +kernel
theorem dX0_copyFrom_64 : decode cX0_copyFrom 64 = .ok (.return_, 1) := by decide +kernel
theorem dX0_isOpenOn_0 : decode cX0_isOpenOn 0 = .ok (.aload_n 0, 1) := by decide +kernel
theorem dX0_isOpenOn_1 : decode cX0_isOpenOn 1 = .ok (.getfield 15, 3) := by decide +kernel
theorem dX0_isOpenOn_4 : decode cX0_isOpenOn 4 = .ok (.ifCond .eq 15, 3) := by decide +kernel
theorem dX0_isOpenOn_7 : decode cX0_isOpenOn 7 = .ok (.aload_n 0, 1) := by decide +kernel
theorem dX0_isOpenOn_8 : decode cX0_isOpenOn 8 = .ok (.getfield 21, 3) := by decide +kernel
theorem dX0_isOpenOn_11 : decode cX0_isOpenOn 11 = .ok (.iload_n 1, 1) := by decide +kernel
theorem dX0_isOpenOn_12 : decode cX0_isOpenOn 12 = .ok (.if_icmp .ne 7, 3) := by decide +kernel
theorem dX0_isOpenOn_15 : decode cX0_isOpenOn 15 = .ok (.iconst 1, 1) := by decide +kernel
theorem dX0_isOpenOn_16 : decode cX0_isOpenOn 16 = .ok (.goto 4, 3) := by decide +kernel
theorem dX0_isOpenOn_19 : decode cX0_isOpenOn 19 = .ok (.iconst 0, 1) := by decide +kernel
theorem dX0_isOpenOn_20 : decode cX0_isOpenOn 20 = .ok (.ireturn, 1) := by decide +kernel
theorem dX0_meets_0 : decode cX0_meets 0 = .ok (.aload_n 0, 1) := by decide +kernel
theorem dX0_meets_1 : decode cX0_meets 1 = .ok (.getfield 18, 3) := by decide +kernel
theorem dX0_meets_4 : decode cX0_meets 4 = .ok (.ifCond .eq 11, 3) := by decide +kernel
theorem dX0_meets_7 : decode cX0_meets 7 = .ok (.iload_n 1, 1) := by decide +kernel
theorem dX0_meets_8 : decode cX0_meets 8 = .ok (.aload_n 0, 1) := by decide +kernel
theorem dX0_meets_9 : decode cX0_meets 9 = .ok (.getfield 28, 3) := by decide +kernel
theorem dX0_meets_12 : decode cX0_meets 12 = .ok (.if_icmp .gt 7, 3) := by decide +kernel
theorem dX0_meets_15 : decode cX0_meets 15 = .ok (.iconst 1, 1) := by decide +kernel
theorem dX0_meets_16 : decode cX0_meets 16 = .ok (.goto 4, 3) := by decide +kernel
theorem dX0_meets_19 : decode cX0_meets 19 = .ok (.iconst 0, 1) := by decide +kernel
theorem dX0_meets_20 : decode cX0_meets 20 = .ok (.ireturn, 1) := by decide +kernel
theorem dX1_init_0 : decode cX1_init 0 = .ok (.aload_n 0, 1) := by decide +kernel
theorem dX1_init_1 : decode cX1_init 1 = .ok (.invokespecial 3, 3) := by decide +kernel
theorem dX1_init_4 : decode cX1_init 4 = .ok (.aload_n 0, 1) := by decide +kernel
theorem dX1_init_5 : decode cX1_init 5 = .ok (.sipush 600, 3) := by decide +kernel
theorem dX1_init_8 : decode cX1_init 8 = .ok (.newarray .byte, 2) := by decide +kernel
theorem dX1_init_10 : decode cX1_init 10 = .ok (.putfield 9, 3) := by decide +kernel
theorem dX1_init_13 : decode cX1_init 13 = .ok (.return_, 1) := by decide +kernel
theorem dX1_takeFourBytes_0 : decode cX1_takeFourBytes 0 = .ok (.bipush 24, 2) := by decide +kernel
theorem dX1_takeFourBytes_2 : decode cX1_takeFourBytes 2 = .ok (.istore_n 2, 1) := by decide +kernel
theorem dX1_takeFourBytes_3 : decode cX1_takeFourBytes 3 = .ok (.iload_n 2, 1) := by decide +kernel
theorem dX1_takeFourBytes_4 : decode cX1_takeFourBytes 4 = .ok (.ifCond .lt 42, 3) := by decide +kernel
theorem dX1_takeFourBytes_7 : decode cX1_takeFourBytes 7 = .ok (.aload_n 0, 1) := by decide +kernel
theorem dX1_takeFourBytes_8 : decode cX1_takeFourBytes 8 = .ok (.getfield 15, 3) := by decide +kernel
theorem dX1_takeFourBytes_11 : decode cX1_takeFourBytes 11 = .ok (.sipush 600, 3) := by decide +kernel
theorem dX1_takeFourBytes_14 : decode cX1_takeFourBytes 14 = .ok (.if_icmp .ge 32, 3) := by decide +kernel
theorem dX1_takeFourBytes_17 : decode cX1_takeFourBytes 17 = .ok (.aload_n 0, 1) := by decide +kernel
theorem dX1_takeFourBytes_18 : decode cX1_takeFourBytes 18 = .ok (.getfield 9, 3) := by decide +kernel
theorem dX1_takeFourBytes_21 : decode cX1_takeFourBytes 21 = .ok (.aload_n 0, 1) := by decide +kernel
theorem dX1_takeFourBytes_22 : decode cX1_takeFourBytes 22 = .ok (.getfield 15, 3) := by decide +kernel
theorem dX1_takeFourBytes_25 : decode cX1_takeFourBytes 25 = .ok (.iload_n 1, 1) := by decide +kernel
theorem dX1_takeFourBytes_26 : decode cX1_takeFourBytes 26 = .ok (.iload_n 2, 1) := by decide +kernel
theorem dX1_takeFourBytes_27 : decode cX1_takeFourBytes 27 = .ok (.ishr, 1) := by decide +kernel
theorem dX1_takeFourBytes_28 : decode cX1_takeFourBytes 28 = .ok (.i2b, 1) := by decide +kernel
theorem dX1_takeFourBytes_29 : decode cX1_takeFourBytes 29 = .ok (.bastore, 1) := by decide +kernel
theorem dX1_takeFourBytes_30 : decode cX1_takeFourBytes 30 = .ok (.aload_n 0, 1) := by decide +kernel
theorem dX1_takeFourBytes_31 : decode cX1_takeFourBytes 31 = .ok (.dup, 1) := by decide +kernel
theorem dX1_takeFourBytes_32 : decode cX1_takeFourBytes 32 = .ok (.getfield 15, 3) := by decide +kernel
theorem dX1_takeFourBytes_35 : decode cX1_takeFourBytes 35 = .ok (.iconst 1, 1) := by decide +kernel
theorem dX1_takeFourBytes_36 : decode cX1_takeFourBytes 36 = .ok (.iadd, 1) := by decide +kernel
theorem dX1_takeFourBytes_37 : decode cX1_takeFourBytes 37 = .ok (.putfield 15, 3) := by decide +kernel
theorem dX1_takeFourBytes_40 : decode cX1_takeFourBytes 40 = .ok (.iinc 2 (-8), 3) := by decide +kernel
theorem dX1_takeFourBytes_43 : decode cX1_takeFourBytes 43 = .ok (.goto (-40), 3) := by decide +kernel
theorem dX1_takeFourBytes_46 : decode cX1_takeFourBytes 46 = .ok (.return_, 1) := by decide +kernel
theorem dJ0_coder_7d493_0 : decode cJ0_coder_7d493 0 = .ok (.getstatic 38, 3) := by decide +kernel
theorem dJ0_coder_7d493_3 : decode cJ0_coder_7d493 3 = .ok (.ifCond .eq 10, 3) := by decide +kernel
theorem dJ0_coder_7d493_6 : decode cJ0_coder_7d493 6 = .ok (.aload_n 0, 1) := by decide +kernel
theorem dJ0_coder_7d493_7 : decode cJ0_coder_7d493 7 = .ok (.getfield 15, 3) := by decide +kernel
theorem dJ0_coder_7d493_10 : decode cJ0_coder_7d493 10 = .ok (.goto 4, 3) := by decide +kernel
theorem dJ0_coder_7d493_13 : decode cJ0_coder_7d493 13 = .ok (.iconst 1, 1) := by decide +kernel
theorem dJ0_coder_7d493_14 : decode cJ0_coder_7d493 14 = .ok (.ireturn, 1) := by decide +kernel
theorem dJ0_length_8abf5_0 : decode cJ0_length_8abf5 0 = .ok (.aload_n 0, 1) := by decide +kernel
theorem dJ0_length_8abf5_1 : decode cJ0_length_8abf5 1 = .ok (.getfield 9, 3) := by decide +kernel
theorem dJ0_length_8abf5_4 : decode cJ0_length_8abf5 4 = .ok (.arraylength, 1) := by decide +kernel
theorem dJ0_length_8abf5_5 : decode cJ0_length_8abf5 5 = .ok (.aload_n 0, 1) := by decide +kernel
theorem dJ0_length_8abf5_6 : decode cJ0_length_8abf5 6 = .ok (.invokevirtual 335, 3) := by decide +kernel
theorem dJ0_length_8abf5_9 : decode cJ0_length_8abf5 9 = .ok (.ishr, 1) := by decide +kernel
theorem dJ0_length_8abf5_10 : decode cJ0_length_8abf5 10 = .ok (.ireturn, 1) := by decide +kernel
theorem dJ0_isLatin1_aae02_0 : decode cJ0_isLatin1_aae02 0 = .ok (.getstatic 38, 3) := by decide +kernel
theorem dJ0_isLatin1_aae02_3 : decode cJ0_isLatin1_aae02 3 = .ok (.ifCond .eq 14, 3) := by decide +kernel
theorem dJ0_isLatin1_aae02_6 : decode cJ0_isLatin1_aae02 6 = .ok (.aload_n 0, 1) := by decide +kernel
theorem dJ0_isLatin1_aae02_7 : decode cJ0_isLatin1_aae02 7 = .ok (.getfield 15, 3) := by decide +kernel
theorem dJ0_isLatin1_aae02_10 : decode cJ0_isLatin1_aae02 10 = .ok (.ifCond .ne 7, 3) := by decide +kernel
theorem dJ0_isLatin1_aae02_13 : decode cJ0_isLatin1_aae02 13 = .ok (.iconst 1, 1) := by decide +kernel
theorem dJ0_isLatin1_aae02_14 : decode cJ0_isLatin1_aae02 14 = .ok (.goto 4, 3) := by decide +kernel
theorem dJ0_isLatin1_aae02_17 : decode cJ0_isLatin1_aae02 17 = .ok (.iconst 0, 1) := by decide +kernel
theorem dJ0_isLatin1_aae02_18 : decode cJ0_isLatin1_aae02 18 = .ok (.ireturn, 1) := by decide +kernel
theorem dJ3_checkIndex_8e157_0 : decode cJ3_checkIndex_8e157 0 = .ok (.iload_n 0, 1) := by decide +kernel
theorem dJ3_checkIndex_8e157_1 : decode cJ3_checkIndex_8e157 1 = .ok (.ifCond .lt 8, 3) := by decide +kernel
theorem dJ3_checkIndex_8e157_4 : decode cJ3_checkIndex_8e157 4 = .ok (.iload_n 0, 1) := by decide +kernel
theorem dJ3_checkIndex_8e157_5 : decode cJ3_checkIndex_8e157 5 = .ok (.iload_n 1, 1) := by decide +kernel
theorem dJ3_checkIndex_8e157_6 : decode cJ3_checkIndex_8e157 6 = .ok (.if_icmp .lt 10, 3) := by decide +kernel
theorem dJ3_checkIndex_8e157_9 : decode cJ3_checkIndex_8e157 9 = .ok (.aload_n 2, 1) := by decide +kernel
theorem dJ3_checkIndex_8e157_10 : decode cJ3_checkIndex_8e157 10 = .ok (.iload_n 0, 1) := by decide +kernel
theorem dJ3_checkIndex_8e157_11 : decode cJ3_checkIndex_8e157 11 = .ok (.iload_n 1, 1) := by decide +kernel
theorem dJ3_checkIndex_8e157_12 : decode cJ3_checkIndex_8e157 12 = .ok (.invokestatic 95, 3) := by decide +kernel
theorem dJ3_checkIndex_8e157_15 : decode cJ3_checkIndex_8e157 15 = .ok (.athrow, 1) := by decide +kernel
theorem dJ3_checkIndex_8e157_16 : decode cJ3_checkIndex_8e157 16 = .ok (.iload_n 0, 1) := by decide +kernel
theorem dJ3_checkIndex_8e157_17 : decode cJ3_checkIndex_8e157 17 = .ok (.ireturn, 1) := by decide +kernel
theorem dJ0_checkIndex_df160_0 : decode cJ0_checkIndex_df160 0 = .ok (.iload_n 0, 1) := by decide +kernel
theorem dJ0_checkIndex_df160_1 : decode cJ0_checkIndex_df160 1 = .ok (.iload_n 1, 1) := by decide +kernel
theorem dJ0_checkIndex_df160_2 : decode cJ0_checkIndex_df160 2 = .ok (.getstatic 1053, 3) := by decide +kernel
theorem dJ0_checkIndex_df160_5 : decode cJ0_checkIndex_df160 5 = .ok (.invokestatic 1059, 3) := by decide +kernel
theorem dJ0_checkIndex_df160_8 : decode cJ0_checkIndex_df160 8 = .ok (.pop, 1) := by decide +kernel
theorem dJ0_checkIndex_df160_9 : decode cJ0_checkIndex_df160 9 = .ok (.return_, 1) := by decide +kernel
theorem dJ1_charAt_3b067_0 : decode cJ1_charAt_3b067 0 = .ok (.iload_n 1, 1) := by decide +kernel
theorem dJ1_charAt_3b067_1 : decode cJ1_charAt_3b067 1 = .ok (.aload_n 0, 1) := by decide +kernel
theorem dJ1_charAt_3b067_2 : decode cJ1_charAt_3b067 2 = .ok (.arraylength, 1) := by decide +kernel
theorem dJ1_charAt_3b067_3 : decode cJ1_charAt_3b067 3 = .ok (.invokestatic 9, 3) := by decide +kernel
theorem dJ1_charAt_3b067_6 : decode cJ1_charAt_3b067 6 = .ok (.aload_n 0, 1) := by decide +kernel
theorem dJ1_charAt_3b067_7 : decode cJ1_charAt_3b067 7 = .ok (.iload_n 1, 1) := by decide +kernel
theorem dJ1_charAt_3b067_8 : decode cJ1_charAt_3b067 8 = .ok (.baload, 1) := by decide +kernel
theorem dJ1_charAt_3b067_9 : decode cJ1_charAt_3b067 9 = .ok (.sipush 255, 3) := by decide +kernel
theorem dJ1_charAt_3b067_12 : decode cJ1_charAt_3b067 12 = .ok (.iand, 1) := by decide +kernel
theorem dJ1_charAt_3b067_13 : decode cJ1_charAt_3b067 13 = .ok (.i2c, 1) := by decide +kernel
theorem dJ1_charAt_3b067_14 : decode cJ1_charAt_3b067 14 = .ok (.ireturn, 1) := by decide +kernel
theorem dJ0_charAt_5068e_0 : decode cJ0_charAt_5068e 0 = .ok (.aload_n 0, 1) := by decide +kernel
theorem dJ0_charAt_5068e_1 : decode cJ0_charAt_5068e 1 = .ok (.invokevirtual 492, 3) := by decide +kernel
theorem dJ0_charAt_5068e_4 : decode cJ0_charAt_5068e 4 = .ok (.ifCond .eq 12, 3) := by decide +kernel
theorem dJ0_charAt_5068e_7 : decode cJ0_charAt_5068e 7 = .ok (.aload_n 0, 1) := by decide +kernel
theorem dJ0_charAt_5068e_8 : decode cJ0_charAt_5068e 8 = .ok (.getfield 9, 3) := by decide +kernel
theorem dJ0_charAt_5068e_11 : decode cJ0_charAt_5068e 11 = .ok (.iload_n 1, 1) := by decide +kernel
theorem dJ0_charAt_5068e_12 : decode cJ0_charAt_5068e 12 = .ok (.invokestatic 495, 3) := by decide +kernel
theorem dJ0_charAt_5068e_15 : decode cJ0_charAt_5068e 15 = .ok (.ireturn, 1) := by decide +kernel
theorem dJ0_charAt_5068e_16 : decode cJ0_charAt_5068e 16 = .ok (.aload_n 0, 1) := by decide +kernel
theorem dJ0_charAt_5068e_17 : decode cJ0_charAt_5068e 17 = .ok (.getfield 9, 3) := by decide +kernel
theorem dJ0_charAt_5068e_20 : decode cJ0_charAt_5068e 20 = .ok (.iload_n 1, 1) := by decide +kernel
theorem dJ0_charAt_5068e_21 : decode cJ0_charAt_5068e 21 = .ok (.invokestatic 498, 3) := by decide +kernel
theorem dJ0_charAt_5068e_24 : decode cJ0_charAt_5068e 24 = .ok (.ireturn, 1) := by decide +kernel
theorem dX1_holds_0 : decode cX1_holds 0 = .ok (.iload_n 1, 1) := by decide +kernel
theorem dX1_holds_1 : decode cX1_holds 1 = .ok (.ifCond .lt 20, 3) := by decide +kernel
theorem dX1_holds_4 : decode cX1_holds 4 = .ok (.iload_n 2, 1) := by decide +kernel
theorem dX1_holds_5 : decode cX1_holds 5 = .ok (.sipush 600, 3) := by decide +kernel
theorem dX1_holds_8 : decode cX1_holds 8 = .ok (.if_icmp .gt 13, 3) := by decide +kernel
theorem dX1_holds_11 : decode cX1_holds 11 = .ok (.iload_n 2, 1) := by decide +kernel
theorem dX1_holds_12 : decode cX1_holds 12 = .ok (.iload_n 1, 1) := by decide +kernel
theorem dX1_holds_13 : decode cX1_holds 13 = .ok (.isub, 1) := by decide +kernel
theorem dX1_holds_14 : decode cX1_holds 14 = .ok (.aload_n 3, 1) := by decide +kernel
theorem dX1_holds_15 : decode cX1_holds 15 = .ok (.invokevirtual 19, 3) := by decide +kernel
theorem dX1_holds_18 : decode cX1_holds 18 = .ok (.if_icmp .eq 5, 3) := by decide +kernel
theorem dX1_holds_21 : decode cX1_holds 21 = .ok (.iconst 0, 1) := by decide +kernel
theorem dX1_holds_22 : decode cX1_holds 22 = .ok (.ireturn, 1) := by decide +kernel
theorem dX1_holds_23 : decode cX1_holds 23 = .ok (.iload_n 1, 1) := by decide +kernel
theorem dX1_holds_24 : decode cX1_holds 24 = .ok (.istore 4, 2) := by decide +kernel
theorem dX1_holds_26 : decode cX1_holds 26 = .ok (.iload 4, 2) := by decide +kernel
theorem dX1_holds_28 : decode cX1_holds 28 = .ok (.iload_n 2, 1) := by decide +kernel
theorem dX1_holds_29 : decode cX1_holds 29 = .ok (.if_icmp .ge 29, 3) := by decide +kernel
theorem dX1_holds_32 : decode cX1_holds 32 = .ok (.aload_n 0, 1) := by decide +kernel
theorem dX1_holds_33 : decode cX1_holds 33 = .ok (.getfield 9, 3) := by decide +kernel
theorem dX1_holds_36 : decode cX1_holds 36 = .ok (.iload 4, 2) := by decide +kernel
theorem dX1_holds_38 : decode cX1_holds 38 = .ok (.baload, 1) := by decide +kernel
theorem dX1_holds_39 : decode cX1_holds 39 = .ok (.aload_n 3, 1) := by decide +kernel
theorem dX1_holds_40 : decode cX1_holds 40 = .ok (.iload 4, 2) := by decide +kernel
theorem dX1_holds_42 : decode cX1_holds 42 = .ok (.iload_n 1, 1) := by decide +kernel
theorem dX1_holds_43 : decode cX1_holds 43 = .ok (.isub, 1) := by decide +kernel
theorem dX1_holds_44 : decode cX1_holds 44 = .ok (.invokevirtual 24, 3) := by decide +kernel
theorem dX1_holds_47 : decode cX1_holds 47 = .ok (.if_icmp .eq 5, 3) := by decide +kernel
theorem dX1_holds_50 : decode cX1_holds 50 = .ok (.iconst 0, 1) := by decide +kernel
theorem dX1_holds_51 : decode cX1_holds 51 = .ok (.ireturn, 1) := by decide +kernel
theorem dX1_holds_52 : decode cX1_holds 52 = .ok (.iinc 4 1, 3) := by decide +kernel
theorem dX1_holds_55 : decode cX1_holds 55 = .ok (.goto (-29), 3) := by decide +kernel
theorem dX1_holds_58 : decode cX1_holds 58 = .ok (.iconst 1, 1) := by decide +kernel
theorem dX1_holds_59 : decode cX1_holds 59 = .ok (.ireturn, 1) := by decide +kernel
theorem dX1_isBlank_0 : decode cX1_isBlank 0 = .ok (.aload_n 0, 1) := by decide +kernel
theorem dX1_isBlank_1 : decode cX1_isBlank 1 = .ok (.getfield 9, 3) := by decide +kernel
theorem dX1_isBlank_4 : decode cX1_isBlank 4 = .ok (.iload_n 1, 1) := by decide +kernel
theorem dX1_isBlank_5 : decode cX1_isBlank 5 = .ok (.baload, 1) := by decide +kernel
theorem dX1_isBlank_6 : decode cX1_isBlank 6 = .ok (.bipush 32, 2) := by decide +kernel
theorem dX1_isBlank_8 : decode cX1_isBlank 8 = .ok (.if_icmp .eq 14, 3) := by decide +kernel
theorem dX1_isBlank_11 : decode cX1_isBlank 11 = .ok (.aload_n 0, 1) := by decide +kernel
theorem dX1_isBlank_12 : decode cX1_isBlank 12 = .ok (.getfield 9, 3) := by decide +kernel
theorem dX1_isBlank_15 : decode cX1_isBlank 15 = .ok (.iload_n 1, 1) := by decide +kernel
theorem dX1_isBlank_16 : decode cX1_isBlank 16 = .ok (.baload, 1) := by decide +kernel
theorem dX1_isBlank_17 : decode cX1_isBlank 17 = .ok (.bipush 10, 2) := by decide +kernel
theorem dX1_isBlank_19 : decode cX1_isBlank 19 = .ok (.if_icmp .ne 7, 3) := by decide +kernel
theorem dX1_isBlank_22 : decode cX1_isBlank 22 = .ok (.iconst 1, 1) := by decide +kernel
theorem dX1_isBlank_23 : decode cX1_isBlank 23 = .ok (.goto 4, 3) := by decide +kernel
theorem dX1_isBlank_26 : decode cX1_isBlank 26 = .ok (.iconst 0, 1) := by decide +kernel
theorem dX1_isBlank_27 : decode cX1_isBlank 27 = .ok (.ireturn, 1) := by decide +kernel
theorem dX1_isLetter_0 : decode cX1_isLetter 0 = .ok (.aload_n 0, 1) := by decide +kernel
theorem dX1_isLetter_1 : decode cX1_isLetter 1 = .ok (.getfield 9, 3) := by decide +kernel
theorem dX1_isLetter_4 : decode cX1_isLetter 4 = .ok (.iload_n 1, 1) := by decide +kernel
theorem dX1_isLetter_5 : decode cX1_isLetter 5 = .ok (.baload, 1) := by decide +kernel
theorem dX1_isLetter_6 : decode cX1_isLetter 6 = .ok (.bipush 97, 2) := by decide +kernel
theorem dX1_isLetter_8 : decode cX1_isLetter 8 = .ok (.if_icmp .lt 18, 3) := by decide +kernel
theorem dX1_isLetter_11 : decode cX1_isLetter 11 = .ok (.aload_n 0, 1) := by decide +kernel
theorem dX1_isLetter_12 : decode cX1_isLetter 12 = .ok (.getfield 9, 3) := by decide +kernel
theorem dX1_isLetter_15 : decode cX1_isLetter 15 = .ok (.iload_n 1, 1) := by decide +kernel
theorem dX1_isLetter_16 : decode cX1_isLetter 16 = .ok (.baload, 1) := by decide +kernel
theorem dX1_isLetter_17 : decode cX1_isLetter 17 = .ok (.bipush 122, 2) := by decide +kernel
theorem dX1_isLetter_19 : decode cX1_isLetter 19 = .ok (.if_icmp .gt 7, 3) := by decide +kernel
theorem dX1_isLetter_22 : decode cX1_isLetter 22 = .ok (.iconst 1, 1) := by decide +kernel
theorem dX1_isLetter_23 : decode cX1_isLetter 23 = .ok (.goto 4, 3) := by decide +kernel
theorem dX1_isLetter_26 : decode cX1_isLetter 26 = .ok (.iconst 0, 1) := by decide +kernel
theorem dX1_isLetter_27 : decode cX1_isLetter 27 = .ok (.ireturn, 1) := by decide +kernel
theorem dX1_isDigit_0 : decode cX1_isDigit 0 = .ok (.aload_n 0, 1) := by decide +kernel
theorem dX1_isDigit_1 : decode cX1_isDigit 1 = .ok (.getfield 9, 3) := by decide +kernel
theorem dX1_isDigit_4 : decode cX1_isDigit 4 = .ok (.iload_n 1, 1) := by decide +kernel
theorem dX1_isDigit_5 : decode cX1_isDigit 5 = .ok (.baload, 1) := by decide +kernel
theorem dX1_isDigit_6 : decode cX1_isDigit 6 = .ok (.bipush 48, 2) := by decide +kernel
theorem dX1_isDigit_8 : decode cX1_isDigit 8 = .ok (.if_icmp .lt 18, 3) := by decide +kernel
theorem dX1_isDigit_11 : decode cX1_isDigit 11 = .ok (.aload_n 0, 1) := by decide +kernel
theorem dX1_isDigit_12 : decode cX1_isDigit 12 = .ok (.getfield 9, 3) := by decide +kernel
theorem dX1_isDigit_15 : decode cX1_isDigit 15 = .ok (.iload_n 1, 1) := by decide +kernel
theorem dX1_isDigit_16 : decode cX1_isDigit 16 = .ok (.baload, 1) := by decide +kernel
theorem dX1_isDigit_17 : decode cX1_isDigit 17 = .ok (.bipush 57, 2) := by decide +kernel
theorem dX1_isDigit_19 : decode cX1_isDigit 19 = .ok (.if_icmp .gt 7, 3) := by decide +kernel
theorem dX1_isDigit_22 : decode cX1_isDigit 22 = .ok (.iconst 1, 1) := by decide +kernel
theorem dX1_isDigit_23 : decode cX1_isDigit 23 = .ok (.goto 4, 3) := by decide +kernel
theorem dX1_isDigit_26 : decode cX1_isDigit 26 = .ok (.iconst 0, 1) := by decide +kernel
theorem dX1_isDigit_27 : decode cX1_isDigit 27 = .ok (.ireturn, 1) := by decide +kernel
theorem dX2_init_0 : decode cX2_init 0 = .ok (.aload_n 0, 1) := by decide +kernel
theorem dX2_init_1 : decode cX2_init 1 = .ok (.invokespecial 3, 3) := by decide +kernel
theorem dX2_init_4 : decode cX2_init 4 = .ok (.aload_n 0, 1) := by decide +kernel
theorem dX2_init_5 : decode cX2_init 5 = .ok (.bipush 60, 2) := by decide +kernel
theorem dX2_init_7 : decode cX2_init 7 = .ok (.newarray .int, 2) := by decide +kernel
theorem dX2_init_9 : decode cX2_init 9 = .ok (.putfield 9, 3) := by decide +kernel
theorem dX2_init_12 : decode cX2_init 12 = .ok (.aload_n 0, 1) := by decide +kernel
theorem dX2_init_13 : decode cX2_init 13 = .ok (.bipush 60, 2) := by decide +kernel
theorem dX2_init_15 : decode cX2_init 15 = .ok (.newarray .int, 2) := by decide +kernel
theorem dX2_init_17 : decode cX2_init 17 = .ok (.putfield 15, 3) := by decide +kernel
theorem dX2_init_20 : decode cX2_init 20 = .ok (.aload_n 0, 1) := by decide +kernel
theorem dX2_init_21 : decode cX2_init 21 = .ok (.bipush 60, 2) := by decide +kernel
theorem dX2_init_23 : decode cX2_init 23 = .ok (.newarray .int, 2) := by decide +kernel
theorem dX2_init_25 : decode cX2_init 25 = .ok (.putfield 18, 3) := by decide +kernel
theorem dX2_init_28 : decode cX2_init 28 = .ok (.return_, 1) := by decide +kernel
theorem dX2_begin_0 : decode cX2_begin 0 = .ok (.aload_n 0, 1) := by decide +kernel
theorem dX2_begin_1 : decode cX2_begin 1 = .ok (.iconst 0, 1) := by decide +kernel
theorem dX2_begin_2 : decode cX2_begin 2 = .ok (.putfield 21, 3) := by decide +kernel
theorem dX2_begin_5 : decode cX2_begin 5 = .ok (.aload_n 0, 1) := by decide +kernel
theorem dX2_begin_6 : decode cX2_begin 6 = .ok (.iconst 0, 1) := by decide +kernel
theorem dX2_begin_7 : decode cX2_begin 7 = .ok (.putfield 25, 3) := by decide +kernel
theorem dX2_begin_10 : decode cX2_begin 10 = .ok (.aload_n 0, 1) := by decide +kernel
theorem dX2_begin_11 : decode cX2_begin 11 = .ok (.lconst 0, 1) := by decide +kernel
theorem dX2_begin_12 : decode cX2_begin 12 = .ok (.putfield 28, 3) := by decide +kernel
theorem dX2_begin_15 : decode cX2_begin 15 = .ok (.return_, 1) := by decide +kernel
theorem dX2_copyFrom_0 : decode cX2_copyFrom 0 = .ok (.aload_n 0, 1) := by decide +kernel
theorem dX2_copyFrom_1 : decode cX2_copyFrom 1 = .ok (.aload_n 1, 1) := by decide +kernel
theorem dX2_copyFrom_2 : decode cX2_copyFrom 2 = .ok (.getfield 21, 3) := by decide +kernel
theorem dX2_copyFrom_5 : decode cX2_copyFrom 5 = .ok (.putfield 21, 3) := by decide +kernel
theorem dX2_copyFrom_8 : decode cX2_copyFrom 8 = .ok (.aload_n 0, 1) := by decide +kernel
theorem dX2_copyFrom_9 : decode cX2_copyFrom 9 = .ok (.aload_n 1, 1) := by decide +kernel
theorem dX2_copyFrom_10 : decode cX2_copyFrom 10 = .ok (.getfield 25, 3) := by decide +kernel
theorem dX2_copyFrom_13 : decode cX2_copyFrom 13 = .ok (.putfield 25, 3) := by decide +kernel
theorem dX2_copyFrom_16 : decode cX2_copyFrom 16 = .ok (.aload_n 0, 1) := by decide +kernel
theorem dX2_copyFrom_17 : decode cX2_copyFrom 17 = .ok (.aload_n 1, 1) := by decide +kernel
theorem dX2_copyFrom_18 : decode cX2_copyFrom 18 = .ok (.getfield 28, 3) := by decide +kernel
theorem dX2_copyFrom_21 : decode cX2_copyFrom 21 = .ok (.putfield 28, 3) := by decide +kernel
theorem dX2_copyFrom_24 : decode cX2_copyFrom 24 = .ok (.aload_n 1, 1) := by decide +kernel
theorem dX2_copyFrom_25 : decode cX2_copyFrom 25 = .ok (.getfield 9, 3) := by decide +kernel
theorem dX2_copyFrom_28 : decode cX2_copyFrom 28 = .ok (.iconst 0, 1) := by decide +kernel
theorem dX2_copyFrom_29 : decode cX2_copyFrom 29 = .ok (.aload_n 0, 1) := by decide +kernel
theorem dX2_copyFrom_30 : decode cX2_copyFrom 30 = .ok (.getfield 9, 3) := by decide +kernel
theorem dX2_copyFrom_33 : decode cX2_copyFrom 33 = .ok (.iconst 0, 1) := by decide +kernel
theorem dX2_copyFrom_34 : decode cX2_copyFrom 34 = .ok (.aload_n 0, 1) := by decide +kernel
theorem dX2_copyFrom_35 : decode cX2_copyFrom 35 = .ok (.getfield 21, 3) := by decide +kernel
theorem dX2_copyFrom_38 : decode cX2_copyFrom 38 = .ok (.invokestatic 32, 3) := by decide +kernel
theorem dX2_copyFrom_41 : decode cX2_copyFrom 41 = .ok (.aload_n 1, 1) := by decide +kernel
theorem dX2_copyFrom_42 : decode cX2_copyFrom 42 = .ok (.getfield 15, 3) := by decide +kernel
theorem dX2_copyFrom_45 : decode cX2_copyFrom 45 = .ok (.iconst 0, 1) := by decide +kernel
theorem dX2_copyFrom_46 : decode cX2_copyFrom 46 = .ok (.aload_n 0, 1) := by decide +kernel
theorem dX2_copyFrom_47 : decode cX2_copyFrom 47 = .ok (.getfield 15, 3) := by decide +kernel
theorem dX2_copyFrom_50 : decode cX2_copyFrom 50 = .ok (.iconst 0, 1) := by decide +kernel
theorem dX2_copyFrom_51 : decode cX2_copyFrom 51 = .ok (.aload_n 0, 1) := by decide +kernel
theorem dX2_copyFrom_52 : decode cX2_copyFrom 52 = .ok (.getfield 21, 3) := by decide +kernel
theorem dX2_copyFrom_55 : decode cX2_copyFrom 55 = .ok (.invokestatic 32, 3) := by decide +kernel
theorem dX2_copyFrom_58 : decode cX2_copyFrom 58 = .ok (.aload_n 1, 1) := by decide +kernel
theorem dX2_copyFrom_59 : decode cX2_copyFrom 59 = .ok (.getfield 18, 3) := by decide +kernel
theorem dX2_copyFrom_62 : decode cX2_copyFrom 62 = .ok (.iconst 0, 1) := by decide +kernel
theorem dX2_copyFrom_63 : decode cX2_copyFrom 63 = .ok (.aload_n 0, 1) := by decide +kernel
theorem dX2_copyFrom_64 : decode cX2_copyFrom 64 = .ok (.getfield 18, 3) := by decide +kernel
theorem dX2_copyFrom_67 : decode cX2_copyFrom 67 = .ok (.iconst 0, 1) := by decide +kernel
theorem dX2_copyFrom_68 : decode cX2_copyFrom 68 = .ok (.aload_n 0, 1) := by decide +kernel
theorem dX2_copyFrom_69 : decode cX2_copyFrom 69 = .ok (.getfield 21, 3) := by decide +kernel
theorem dX2_copyFrom_72 : decode cX2_copyFrom 72 = .ok (.invokestatic 32, 3) := by decide +kernel
theorem dX2_copyFrom_75 : decode cX2_copyFrom 75 = .ok (.return_, 1) := by decide +kernel
theorem dX2_bitsBehind_0 : decode cX2_bitsBehind 0 = .ok (.aload_n 0, 1) := by decide +kernel
theorem dX2_bitsBehind_1 : decode cX2_bitsBehind 1 = .ok (.getfield 18, 3) := by decide +kernel
theorem dX2_bitsBehind_4 : decode cX2_bitsBehind 4 = .ok (.iload_n 3, 1) := by decide +kernel
theorem dX2_bitsBehind_5 : decode cX2_bitsBehind 5 = .ok (.iaload, 1) := by decide +kernel
theorem dX2_bitsBehind_6 : decode cX2_bitsBehind 6 = .ok (.iconst 2, 1) := by decide +kernel
theorem dX2_bitsBehind_7 : decode cX2_bitsBehind 7 = .ok (.if_icmp .ne 5, 3) := by decide +kernel
theorem dX2_bitsBehind_10 : decode cX2_bitsBehind 10 = .ok (.lconst 0, 1) := by decide +kernel
theorem dX2_bitsBehind_11 : decode cX2_bitsBehind 11 = .ok (.lreturn, 1) := by decide +kernel
theorem dX2_bitsBehind_12 : decode cX2_bitsBehind 12 = .ok (.lconst 1, 1) := by decide +kernel
theorem dX2_bitsBehind_13 : decode cX2_bitsBehind 13 = .ok (.aload_n 0, 1) := by decide +kernel
theorem dX2_bitsBehind_14 : decode cX2_bitsBehind 14 = .ok (.getfield 15, 3) := by decide +kernel
theorem dX2_bitsBehind_17 : decode cX2_bitsBehind 17 = .ok (.iload_n 3, 1) := by decide +kernel
theorem dX2_bitsBehind_18 : decode cX2_bitsBehind 18 = .ok (.iaload, 1) := by decide +kernel
theorem dX2_bitsBehind_19 : decode cX2_bitsBehind 19 = .ok (.lshl, 1) := by decide +kernel
theorem dX2_bitsBehind_20 : decode cX2_bitsBehind 20 = .ok (.lstore 4, 2) := by decide +kernel
theorem dX2_bitsBehind_22 : decode cX2_bitsBehind 22 = .ok (.aload_n 0, 1) := by decide +kernel
theorem dX2_bitsBehind_23 : decode cX2_bitsBehind 23 = .ok (.getfield 18, 3) := by decide +kernel
theorem dX2_bitsBehind_26 : decode cX2_bitsBehind 26 = .ok (.iload_n 3, 1) := by decide +kernel
theorem dX2_bitsBehind_27 : decode cX2_bitsBehind 27 = .ok (.iaload, 1) := by decide +kernel
theorem dX2_bitsBehind_28 : decode cX2_bitsBehind 28 = .ok (.ifCond .ne 10, 3) := by decide +kernel
theorem dX2_bitsBehind_31 : decode cX2_bitsBehind 31 = .ok (.lload_n 1, 1) := by decide +kernel
theorem dX2_bitsBehind_32 : decode cX2_bitsBehind 32 = .ok (.lload 4, 2) := by decide +kernel
theorem dX2_bitsBehind_34 : decode cX2_bitsBehind 34 = .ok (.lor, 1) := by decide +kernel
theorem dX2_bitsBehind_35 : decode cX2_bitsBehind 35 = .ok (.goto 11, 3) := by decide +kernel
theorem dX2_bitsBehind_38 : decode cX2_bitsBehind 38 = .ok (.lload_n 1, 1) := by decide +kernel
theorem dX2_bitsBehind_39 : decode cX2_bitsBehind 39 = .ok (.lload 4, 2) := by decide +kernel
theorem dX2_bitsBehind_41 : decode cX2_bitsBehind 41 = .ok (.ldc2_w 42, 3) := by decide +kernel
theorem dX2_bitsBehind_44 : decode cX2_bitsBehind 44 = .ok (.lxor, 1) := by decide +kernel
theorem dX2_bitsBehind_45 : decode cX2_bitsBehind 45 = .ok (.land, 1) := by decide +kernel
theorem dX2_bitsBehind_46 : decode cX2_bitsBehind 46 = .ok (.lreturn, 1) := by decide +kernel
theorem dX2_note_0 : decode cX2_note 0 = .ok (.aload_n 0, 1) := by decide +kernel
theorem dX2_note_1 : decode cX2_note 1 = .ok (.getfield 21, 3) := by decide +kernel
theorem dX2_note_4 : decode cX2_note 4 = .ok (.iload 4, 2) := by decide +kernel
theorem dX2_note_6 : decode cX2_note 6 = .ok (.if_icmp .lt 87, 3) := by decide +kernel
theorem dX2_note_9 : decode cX2_note 9 = .ok (.aload_n 0, 1) := by decide +kernel
theorem dX2_note_10 : decode cX2_note 10 = .ok (.aload_n 0, 1) := by decide +kernel
theorem dX2_note_11 : decode cX2_note 11 = .ok (.getfield 9, 3) := by decide +kernel
theorem dX2_note_14 : decode cX2_note 14 = .ok (.iconst 0, 1) := by decide +kernel
theorem dX2_note_15 : decode cX2_note 15 = .ok (.iaload, 1) := by decide +kernel
theorem dX2_note_16 : decode cX2_note 16 = .ok (.putfield 25, 3) := by decide +kernel
theorem dX2_note_19 : decode cX2_note 19 = .ok (.aload_n 0, 1) := by decide +kernel
theorem dX2_note_20 : decode cX2_note 20 = .ok (.aload_n 0, 1) := by decide +kernel
theorem dX2_note_21 : decode cX2_note 21 = .ok (.aload_n 0, 1) := by decide +kernel
theorem dX2_note_22 : decode cX2_note 22 = .ok (.getfield 28, 3) := by decide +kernel
theorem dX2_note_25 : decode cX2_note 25 = .ok (.iconst 0, 1) := by decide +kernel
theorem dX2_note_26 : decode cX2_note 26 = .ok (.invokevirtual 38, 3) := by decide +kernel
theorem dX2_note_29 : decode cX2_note 29 = .ok (.putfield 28, 3) := by decide +kernel
theorem dX2_note_32 : decode cX2_note 32 = .ok (.aload_n 0, 1) := by decide +kernel
theorem dX2_note_33 : decode cX2_note 33 = .ok (.dup, 1) := by decide +kernel
theorem dX2_note_34 : decode cX2_note 34 = .ok (.getfield 21, 3) := by decide +kernel
theorem dX2_note_37 : decode cX2_note 37 = .ok (.iconst 1, 1) := by decide +kernel
theorem dX2_note_38 : decode cX2_note 38 = .ok (.isub, 1) := by decide +kernel
theorem dX2_note_39 : decode cX2_note 39 = .ok (.putfield 21, 3) := by decide +kernel
theorem dX2_note_42 : decode cX2_note 42 = .ok (.aload_n 0, 1) := by decide +kernel
theorem dX2_note_43 : decode cX2_note 43 = .ok (.getfield 9, 3) := by decide +kernel
theorem dX2_note_46 : decode cX2_note 46 = .ok (.iconst 1, 1) := by decide +kernel
theorem dX2_note_47 : decode cX2_note 47 = .ok (.aload_n 0, 1) := by decide +kernel
theorem dX2_note_48 : decode cX2_note 48 = .ok (.getfield 9, 3) := by decide +kernel
theorem dX2_note_51 : decode cX2_note 51 = .ok (.iconst 0, 1) := by decide +kernel
theorem dX2_note_52 : decode cX2_note 52 = .ok (.aload_n 0, 1) := by decide +kernel
theorem dX2_note_53 : decode cX2_note 53 = .ok (.getfield 21, 3) := by decide +kernel
theorem dX2_note_56 : decode cX2_note 56 = .ok (.invokestatic 32, 3) := by decide +kernel
theorem dX2_note_59 : decode cX2_note 59 = .ok (.aload_n 0, 1) := by decide +kernel
theorem dX2_note_60 : decode cX2_note 60 = .ok (.getfield 15, 3) := by decide +kernel
theorem dX2_note_63 : decode cX2_note 63 = .ok (.iconst 1, 1) := by decide +kernel
theorem dX2_note_64 : decode cX2_note 64 = .ok (.aload_n 0, 1) := by decide +kernel
theorem dX2_note_65 : decode cX2_note 65 = .ok (.getfield 15, 3) := by decide +kernel
theorem dX2_note_68 : decode cX2_note 68 = .ok (.iconst 0, 1) := by decide +kernel
theorem dX2_note_69 : decode cX2_note 69 = .ok (.aload_n 0, 1) := by decide +kernel
theorem dX2_note_70 : decode cX2_note 70 = .ok (.getfield 21, 3) := by decide +kernel
theorem dX2_note_73 : decode cX2_note 73 = .ok (.invokestatic 32, 3) := by decide +kernel
theorem dX2_note_76 : decode cX2_note 76 = .ok (.aload_n 0, 1) := by decide +kernel
theorem dX2_note_77 : decode cX2_note 77 = .ok (.getfield 18, 3) := by decide +kernel
theorem dX2_note_80 : decode cX2_note 80 = .ok (.iconst 1, 1) := by decide +kernel
theorem dX2_note_81 : decode cX2_note 81 = .ok (.aload_n 0, 1) := by decide +kernel
theorem dX2_note_82 : decode cX2_note 82 = .ok (.getfield 18, 3) := by decide +kernel
theorem dX2_note_85 : decode cX2_note 85 = .ok (.iconst 0, 1) := by decide +kernel
theorem dX2_note_86 : decode cX2_note 86 = .ok (.aload_n 0, 1) := by decide +kernel
theorem dX2_note_87 : decode cX2_note 87 = .ok (.getfield 21, 3) := by decide +kernel
theorem dX2_note_90 : decode cX2_note 90 = .ok (.invokestatic 32, 3) := by decide +kernel
theorem dX2_note_93 : decode cX2_note 93 = .ok (.aload_n 0, 1) := by decide +kernel
theorem dX2_note_94 : decode cX2_note 94 = .ok (.getfield 9, 3) := by decide +kernel
theorem dX2_note_97 : decode cX2_note 97 = .ok (.aload_n 0, 1) := by decide +kernel
theorem dX2_note_98 : decode cX2_note 98 = .ok (.getfield 21, 3) := by decide +kernel
theorem dX2_note_101 : decode cX2_note 101 = .ok (.iload_n 1, 1) := by decide +kernel
theorem dX2_note_102 : decode cX2_note 102 = .ok (.iastore, 1) := by decide +kernel
theorem dX2_note_103 : decode cX2_note 103 = .ok (.aload_n 0, 1) := by decide +kernel
theorem dX2_note_104 : decode cX2_note 104 = .ok (.getfield 15, 3) := by decide +kernel
theorem dX2_note_107 : decode cX2_note 107 = .ok (.aload_n 0, 1) := by decide +kernel
theorem dX2_note_108 : decode cX2_note 108 = .ok (.getfield 21, 3) := by decide +kernel
theorem dX2_note_111 : decode cX2_note 111 = .ok (.iload_n 2, 1) := by decide +kernel
theorem dX2_note_112 : decode cX2_note 112 = .ok (.iastore, 1) := by decide +kernel
theorem dX2_note_113 : decode cX2_note 113 = .ok (.aload_n 0, 1) := by decide +kernel
theorem dX2_note_114 : decode cX2_note 114 = .ok (.getfield 18, 3) := by decide +kernel
theorem dX2_note_117 : decode cX2_note 117 = .ok (.aload_n 0, 1) := by decide +kernel
theorem dX2_note_118 : decode cX2_note 118 = .ok (.getfield 21, 3) := by decide +kernel
theorem dX2_note_121 : decode cX2_note 121 = .ok (.iload_n 3, 1) := by decide +kernel
theorem dX2_note_122 : decode cX2_note 122 = .ok (.iastore, 1) := by decide +kernel
theorem dX2_note_123 : decode cX2_note 123 = .ok (.aload_n 0, 1) := by decide +kernel
theorem dX2_note_124 : decode cX2_note 124 = .ok (.dup, 1) := by decide +kernel
theorem dX2_note_125 : decode cX2_note 125 = .ok (.getfield 21, 3) := by decide +kernel
theorem dX2_note_128 : decode cX2_note 128 = .ok (.iconst 1, 1) := by decide +kernel
theorem dX2_note_129 : decode cX2_note 129 = .ok (.iadd, 1) := by decide +kernel
theorem dX2_note_130 : decode cX2_note 130 = .ok (.putfield 21, 3) := by decide +kernel
theorem dX2_note_133 : decode cX2_note 133 = .ok (.return_, 1) := by decide +kernel
theorem dX2_bitsAt_0 : decode cX2_bitsAt 0 = .ok (.aload_n 0, 1) := by decide +kernel
theorem dX2_bitsAt_1 : decode cX2_bitsAt 1 = .ok (.getfield 28, 3) := by decide +kernel
theorem dX2_bitsAt_4 : decode cX2_bitsAt 4 = .ok (.lstore_n 2, 1) := by decide +kernel
theorem dX2_bitsAt_5 : decode cX2_bitsAt 5 = .ok (.iconst 0, 1) := by decide +kernel
theorem dX2_bitsAt_6 : decode cX2_bitsAt 6 = .ok (.istore 4, 2) := by decide +kernel
theorem dX2_bitsAt_8 : decode cX2_bitsAt 8 = .ok (.iload 4, 2) := by decide +kernel
theorem dX2_bitsAt_10 : decode cX2_bitsAt 10 = .ok (.aload_n 0, 1) := by decide +kernel
theorem dX2_bitsAt_11 : decode cX2_bitsAt 11 = .ok (.getfield 21, 3) := by decide +kernel
theorem dX2_bitsAt_14 : decode cX2_bitsAt 14 = .ok (.if_icmp .ge 28, 3) := by decide +kernel
theorem dX2_bitsAt_17 : decode cX2_bitsAt 17 = .ok (.aload_n 0, 1) := by decide +kernel
theorem dX2_bitsAt_18 : decode cX2_bitsAt 18 = .ok (.getfield 9, 3) := by decide +kernel
theorem dX2_bitsAt_21 : decode cX2_bitsAt 21 = .ok (.iload 4, 2) := by decide +kernel
theorem dX2_bitsAt_23 : decode cX2_bitsAt 23 = .ok (.iaload, 1) := by decide +kernel
theorem dX2_bitsAt_24 : decode cX2_bitsAt 24 = .ok (.iload_n 1, 1) := by decide +kernel
theorem dX2_bitsAt_25 : decode cX2_bitsAt 25 = .ok (.if_icmp .gt 17, 3) := by decide +kernel
theorem dX2_bitsAt_28 : decode cX2_bitsAt 28 = .ok (.aload_n 0, 1) := by decide +kernel
theorem dX2_bitsAt_29 : decode cX2_bitsAt 29 = .ok (.lload_n 2, 1) := by decide +kernel
theorem dX2_bitsAt_30 : decode cX2_bitsAt 30 = .ok (.iload 4, 2) := by decide +kernel
theorem dX2_bitsAt_32 : decode cX2_bitsAt 32 = .ok (.invokevirtual 38, 3) := by decide +kernel
theorem dX2_bitsAt_35 : decode cX2_bitsAt 35 = .ok (.lstore_n 2, 1) := by decide +kernel
theorem dX2_bitsAt_36 : decode cX2_bitsAt 36 = .ok (.iinc 4 1, 3) := by decide +kernel
theorem dX2_bitsAt_39 : decode cX2_bitsAt 39 = .ok (.goto (-31), 3) := by decide +kernel
theorem dX2_bitsAt_42 : decode cX2_bitsAt 42 = .ok (.lload_n 2, 1) := by decide +kernel
theorem dX2_bitsAt_43 : decode cX2_bitsAt 43 = .ok (.lreturn, 1) := by decide +kernel
theorem dX2_latestChangeOf_0 : decode cX2_latestChangeOf 0 = .ok (.iconst (-1), 1) := by decide +kernel
theorem dX2_latestChangeOf_1 : decode cX2_latestChangeOf 1 = .ok (.istore_n 2, 1) := by decide +kernel
theorem dX2_latestChangeOf_2 : decode cX2_latestChangeOf 2 = .ok (.aload_n 0, 1) := by decide +kernel
theorem dX2_latestChangeOf_3 : decode cX2_latestChangeOf 3 = .ok (.getfield 28, 3) := by decide +kernel
theorem dX2_latestChangeOf_6 : decode cX2_latestChangeOf 6 = .ok (.lstore_n 3, 1) := by decide +kernel
theorem dX2_latestChangeOf_7 : decode cX2_latestChangeOf 7 = .ok (.iconst 0, 1) := by decide +kernel
theorem dX2_latestChangeOf_8 : decode cX2_latestChangeOf 8 = .ok (.istore 5, 2) := by decide +kernel
theorem dX2_latestChangeOf_10 : decode cX2_latestChangeOf 10 = .ok (.iload 5, 2) := by decide +kernel
theorem dX2_latestChangeOf_12 : decode cX2_latestChangeOf 12 = .ok (.aload_n 0, 1) := by decide +kernel
theorem dX2_latestChangeOf_13 : decode cX2_latestChangeOf 13 = .ok (.getfield 21, 3) := by decide +kernel
theorem dX2_latestChangeOf_16 : decode cX2_latestChangeOf 16 = .ok (.if_icmp .ge 42, 3) := by decide +kernel
theorem dX2_latestChangeOf_19 : decode cX2_latestChangeOf 19 = .ok (.aload_n 0, 1) := by decide +kernel
theorem dX2_latestChangeOf_20 : decode cX2_latestChangeOf 20 = .ok (.lload_n 3, 1) := by decide +kernel
theorem dX2_latestChangeOf_21 : decode cX2_latestChangeOf 21 = .ok (.iload 5, 2) := by decide +kernel
theorem dX2_latestChangeOf_23 : decode cX2_latestChangeOf 23 = .ok (.invokevirtual 38, 3) := by decide +kernel
theorem dX2_latestChangeOf_26 : decode cX2_latestChangeOf 26 = .ok (.lstore 6, 2) := by decide +kernel
theorem dX2_latestChangeOf_28 : decode cX2_latestChangeOf 28 = .ok (.lload_n 3, 1) := by decide +kernel
theorem dX2_latestChangeOf_29 : decode cX2_latestChangeOf 29 = .ok (.lload 6, 2) := by decide +kernel
theorem dX2_latestChangeOf_31 : decode cX2_latestChangeOf 31 = .ok (.lxor, 1) := by decide +kernel
theorem dX2_latestChangeOf_32 : decode cX2_latestChangeOf 32 = .ok (.lconst 1, 1) := by decide +kernel
theorem dX2_latestChangeOf_33 : decode cX2_latestChangeOf 33 = .ok (.iload_n 1, 1) := by decide +kernel
theorem dX2_latestChangeOf_34 : decode cX2_latestChangeOf 34 = .ok (.lshl, 1) := by decide +kernel
theorem dX2_latestChangeOf_35 : decode cX2_latestChangeOf 35 = .ok (.land, 1) := by decide +kernel
theorem dX2_latestChangeOf_36 : decode cX2_latestChangeOf 36 = .ok (.lconst 0, 1) := by decide +kernel
theorem dX2_latestChangeOf_37 : decode cX2_latestChangeOf 37 = .ok (.lcmp, 1) := by decide +kernel
theorem dX2_latestChangeOf_38 : decode cX2_latestChangeOf 38 = .ok (.ifCond .eq 11, 3) := by decide +kernel
theorem dX2_latestChangeOf_41 : decode cX2_latestChangeOf 41 = .ok (.aload_n 0, 1) := by decide +kernel
theorem dX2_latestChangeOf_42 : decode cX2_latestChangeOf 42 = .ok (.getfield 9, 3) := by decide +kernel
theorem dX2_latestChangeOf_45 : decode cX2_latestChangeOf 45 = .ok (.iload 5, 2) := by decide +kernel
theorem dX2_latestChangeOf_47 : decode cX2_latestChangeOf 47 = .ok (.iaload, 1) := by decide +kernel
theorem dX2_latestChangeOf_48 : decode cX2_latestChangeOf 48 = .ok (.istore_n 2, 1) := by decide +kernel
theorem dX2_latestChangeOf_49 : decode cX2_latestChangeOf 49 = .ok (.lload 6, 2) := by decide +kernel
theorem dX2_latestChangeOf_51 : decode cX2_latestChangeOf 51 = .ok (.lstore_n 3, 1) := by decide +kernel
theorem dX2_latestChangeOf_52 : decode cX2_latestChangeOf 52 = .ok (.iinc 5 1, 3) := by decide +kernel
theorem dX2_latestChangeOf_55 : decode cX2_latestChangeOf 55 = .ok (.goto (-45), 3) := by decide +kernel
theorem dX2_latestChangeOf_58 : decode cX2_latestChangeOf 58 = .ok (.iload_n 2, 1) := by decide +kernel
theorem dX2_latestChangeOf_59 : decode cX2_latestChangeOf 59 = .ok (.ireturn, 1) := by decide +kernel
theorem dJ13_bitCount_95d88_0 : decode cJ13_bitCount_95d88 0 = .ok (.lload_n 0, 1) := by decide +kernel
theorem dJ13_bitCount_95d88_1 : decode cJ13_bitCount_95d88 1 = .ok (.lload_n 0, 1) := by decide +kernel
theorem dJ13_bitCount_95d88_2 : decode cJ13_bitCount_95d88 2 = .ok (.iconst 1, 1) := by decide +kernel
theorem dJ13_bitCount_95d88_3 : decode cJ13_bitCount_95d88 3 = .ok (.lushr, 1) := by decide +kernel
theorem dJ13_bitCount_95d88_4 : decode cJ13_bitCount_95d88 4 = .ok (.ldc2_w 314, 3) := by decide +kernel
theorem dJ13_bitCount_95d88_7 : decode cJ13_bitCount_95d88 7 = .ok (.land, 1) := by decide +kernel
theorem dJ13_bitCount_95d88_8 : decode cJ13_bitCount_95d88 8 = .ok (.lsub, 1) := by decide +kernel
theorem dJ13_bitCount_95d88_9 : decode cJ13_bitCount_95d88 9 = .ok (.lstore_n 0, 1) := by decide +kernel
theorem dJ13_bitCount_95d88_10 : decode cJ13_bitCount_95d88 10 = .ok (.lload_n 0, 1) := by decide +kernel
theorem dJ13_bitCount_95d88_11 : decode cJ13_bitCount_95d88 11 = .ok (.ldc2_w 316, 3) := by decide +kernel
theorem dJ13_bitCount_95d88_14 : decode cJ13_bitCount_95d88 14 = .ok (.land, 1) := by decide +kernel
theorem dJ13_bitCount_95d88_15 : decode cJ13_bitCount_95d88 15 = .ok (.lload_n 0, 1) := by decide +kernel
theorem dJ13_bitCount_95d88_16 : decode cJ13_bitCount_95d88 16 = .ok (.iconst 2, 1) := by decide +kernel
theorem dJ13_bitCount_95d88_17 : decode cJ13_bitCount_95d88 17 = .ok (.lushr, 1) := by decide +kernel
theorem dJ13_bitCount_95d88_18 : decode cJ13_bitCount_95d88 18 = .ok (.ldc2_w 316, 3) := by decide +kernel
theorem dJ13_bitCount_95d88_21 : decode cJ13_bitCount_95d88 21 = .ok (.land, 1) := by decide +kernel
theorem dJ13_bitCount_95d88_22 : decode cJ13_bitCount_95d88 22 = .ok (.ladd, 1) := by decide +kernel
theorem dJ13_bitCount_95d88_23 : decode cJ13_bitCount_95d88 23 = .ok (.lstore_n 0, 1) := by decide +kernel
theorem dJ13_bitCount_95d88_24 : decode cJ13_bitCount_95d88 24 = .ok (.lload_n 0, 1) := by decide +kernel
theorem dJ13_bitCount_95d88_25 : decode cJ13_bitCount_95d88 25 = .ok (.lload_n 0, 1) := by decide +kernel
theorem dJ13_bitCount_95d88_26 : decode cJ13_bitCount_95d88 26 = .ok (.iconst 4, 1) := by decide +kernel
theorem dJ13_bitCount_95d88_27 : decode cJ13_bitCount_95d88 27 = .ok (.lushr, 1) := by decide +kernel
theorem dJ13_bitCount_95d88_28 : decode cJ13_bitCount_95d88 28 = .ok (.ladd, 1) := by decide +kernel
theorem dJ13_bitCount_95d88_29 : decode cJ13_bitCount_95d88 29 = .ok (.ldc2_w 318, 3) := by decide +kernel
theorem dJ13_bitCount_95d88_32 : decode cJ13_bitCount_95d88 32 = .ok (.land, 1) := by decide +kernel
theorem dJ13_bitCount_95d88_33 : decode cJ13_bitCount_95d88 33 = .ok (.lstore_n 0, 1) := by decide +kernel
theorem dJ13_bitCount_95d88_34 : decode cJ13_bitCount_95d88 34 = .ok (.lload_n 0, 1) := by decide +kernel
theorem dJ13_bitCount_95d88_35 : decode cJ13_bitCount_95d88 35 = .ok (.lload_n 0, 1) := by decide +kernel
theorem dJ13_bitCount_95d88_36 : decode cJ13_bitCount_95d88 36 = .ok (.bipush 8, 2) := by decide +kernel
theorem dJ13_bitCount_95d88_38 : decode cJ13_bitCount_95d88 38 = .ok (.lushr, 1) := by decide +kernel
theorem dJ13_bitCount_95d88_39 : decode cJ13_bitCount_95d88 39 = .ok (.ladd, 1) := by decide +kernel
theorem dJ13_bitCount_95d88_40 : decode cJ13_bitCount_95d88 40 = .ok (.lstore_n 0, 1) := by decide +kernel
theorem dJ13_bitCount_95d88_41 : decode cJ13_bitCount_95d88 41 = .ok (.lload_n 0, 1) := by decide +kernel
theorem dJ13_bitCount_95d88_42 : decode cJ13_bitCount_95d88 42 = .ok (.lload_n 0, 1) := by decide +kernel
theorem dJ13_bitCount_95d88_43 : decode cJ13_bitCount_95d88 43 = .ok (.bipush 16, 2) := by decide +kernel
theorem dJ13_bitCount_95d88_45 : decode cJ13_bitCount_95d88 45 = .ok (.lushr, 1) := by decide +kernel
theorem dJ13_bitCount_95d88_46 : decode cJ13_bitCount_95d88 46 = .ok (.ladd, 1) := by decide +kernel
theorem dJ13_bitCount_95d88_47 : decode cJ13_bitCount_95d88 47 = .ok (.lstore_n 0, 1) := by decide +kernel
theorem dJ13_bitCount_95d88_48 : decode cJ13_bitCount_95d88 48 = .ok (.lload_n 0, 1) := by decide +kernel
theorem dJ13_bitCount_95d88_49 : decode cJ13_bitCount_95d88 49 = .ok (.lload_n 0, 1) := by decide +kernel
theorem dJ13_bitCount_95d88_50 : decode cJ13_bitCount_95d88 50 = .ok (.bipush 32, 2) := by decide +kernel
theorem dJ13_bitCount_95d88_52 : decode cJ13_bitCount_95d88 52 = .ok (.lushr, 1) := by decide +kernel
theorem dJ13_bitCount_95d88_53 : decode cJ13_bitCount_95d88 53 = .ok (.ladd, 1) := by decide +kernel
theorem dJ13_bitCount_95d88_54 : decode cJ13_bitCount_95d88 54 = .ok (.lstore_n 0, 1) := by decide +kernel
theorem dJ13_bitCount_95d88_55 : decode cJ13_bitCount_95d88 55 = .ok (.lload_n 0, 1) := by decide +kernel
theorem dJ13_bitCount_95d88_56 : decode cJ13_bitCount_95d88 56 = .ok (.l2i, 1) := by decide +kernel
theorem dJ13_bitCount_95d88_57 : decode cJ13_bitCount_95d88 57 = .ok (.bipush 127, 2) := by decide +kernel
theorem dJ13_bitCount_95d88_59 : decode cJ13_bitCount_95d88 59 = .ok (.iand, 1) := by decide +kernel
theorem dJ13_bitCount_95d88_60 : decode cJ13_bitCount_95d88 60 = .ok (.ireturn, 1) := by decide +kernel
theorem dX2_stampOfMostMembers_0 : decode cX2_stampOfMostMembers 0 = .ok (.aload_n 0, 1) := by decide +kernel
theorem dX2_stampOfMostMembers_1 : decode cX2_stampOfMostMembers 1 = .ok (.getfield 25, 3) := by decide +kernel
theorem dX2_stampOfMostMembers_4 : decode cX2_stampOfMostMembers 4 = .ok (.istore_n 1, 1) := by decide +kernel
theorem dX2_stampOfMostMembers_5 : decode cX2_stampOfMostMembers 5 = .ok (.aload_n 0, 1) := by decide +kernel
theorem dX2_stampOfMostMembers_6 : decode cX2_stampOfMostMembers 6 = .ok (.getfield 28, 3) := by decide +kernel
theorem dX2_stampOfMostMembers_9 : decode cX2_stampOfMostMembers 9 = .ok (.lstore_n 2, 1) := by decide +kernel
theorem dX2_stampOfMostMembers_10 : decode cX2_stampOfMostMembers 10 = .ok (.lload_n 2, 1) := by decide +kernel
theorem dX2_stampOfMostMembers_11 : decode cX2_stampOfMostMembers 11 = .ok (.invokestatic 44, 3) := by decide +kernel
theorem dX2_stampOfMostMembers_14 : decode cX2_stampOfMostMembers 14 = .ok (.istore 4, 2) := by decide +kernel
theorem dX2_stampOfMostMembers_16 : decode cX2_stampOfMostMembers 16 = .ok (.iconst 0, 1) := by decide +kernel
theorem dX2_stampOfMostMembers_17 : decode cX2_stampOfMostMembers 17 = .ok (.istore 5, 2) := by decide +kernel
theorem dX2_stampOfMostMembers_19 : decode cX2_stampOfMostMembers 19 = .ok (.iload 5, 2) := by decide +kernel
theorem dX2_stampOfMostMembers_21 : decode cX2_stampOfMostMembers 21 = .ok (.aload_n 0, 1) := by decide +kernel
theorem dX2_stampOfMostMembers_22 : decode cX2_stampOfMostMembers 22 = .ok (.getfield 21, 3) := by decide +kernel
theorem dX2_stampOfMostMembers_25 : decode cX2_stampOfMostMembers 25 = .ok (.if_icmp .ge 40, 3) := by decide +kernel
theorem dX2_stampOfMostMembers_28 : decode cX2_stampOfMostMembers 28 = .ok (.aload_n 0, 1) := by decide +kernel
theorem dX2_stampOfMostMembers_29 : decode cX2_stampOfMostMembers 29 = .ok (.lload_n 2, 1) := by decide +kernel
theorem dX2_stampOfMostMembers_30 : decode cX2_stampOfMostMembers 30 = .ok (.iload 5, 2) := by decide +kernel
theorem dX2_stampOfMostMembers_32 : decode cX2_stampOfMostMembers 32 = .ok (.invokevirtual 38, 3) := by decide +kernel
theorem dX2_stampOfMostMembers_35 : decode cX2_stampOfMostMembers 35 = .ok (.lstore_n 2, 1) := by decide +kernel
theorem dX2_stampOfMostMembers_36 : decode cX2_stampOfMostMembers 36 = .ok (.lload_n 2, 1) := by decide +kernel
theorem dX2_stampOfMostMembers_37 : decode cX2_stampOfMostMembers 37 = .ok (.invokestatic 44, 3) := by decide +kernel
theorem dX2_stampOfMostMembers_40 : decode cX2_stampOfMostMembers 40 = .ok (.iload 4, 2) := by decide +kernel
theorem dX2_stampOfMostMembers_42 : decode cX2_stampOfMostMembers 42 = .ok (.if_icmp .le 17, 3) := by decide +kernel
theorem dX2_stampOfMostMembers_45 : decode cX2_stampOfMostMembers 45 = .ok (.lload_n 2, 1) := by decide +kernel
theorem dX2_stampOfMostMembers_46 : decode cX2_stampOfMostMembers 46 = .ok (.invokestatic 44, 3) := by decide +kernel
theorem dX2_stampOfMostMembers_49 : decode cX2_stampOfMostMembers 49 = .ok (.istore 4, 2) := by decide +kernel
theorem dX2_stampOfMostMembers_51 : decode cX2_stampOfMostMembers 51 = .ok (.aload_n 0, 1) := by decide +kernel
theorem dX2_stampOfMostMembers_52 : decode cX2_stampOfMostMembers 52 = .ok (.getfield 9, 3) := by decide +kernel
theorem dX2_stampOfMostMembers_55 : decode cX2_stampOfMostMembers 55 = .ok (.iload 5, 2) := by decide +kernel
theorem dX2_stampOfMostMembers_57 : decode cX2_stampOfMostMembers 57 = .ok (.iaload, 1) := by decide +kernel
theorem dX2_stampOfMostMembers_58 : decode cX2_stampOfMostMembers 58 = .ok (.istore_n 1, 1) := by decide +kernel
theorem dX2_stampOfMostMembers_59 : decode cX2_stampOfMostMembers 59 = .ok (.iinc 5 1, 3) := by decide +kernel
theorem dX2_stampOfMostMembers_62 : decode cX2_stampOfMostMembers 62 = .ok (.goto (-43), 3) := by decide +kernel
theorem dX2_stampOfMostMembers_65 : decode cX2_stampOfMostMembers 65 = .ok (.iload_n 1, 1) := by decide +kernel
theorem dX2_stampOfMostMembers_66 : decode cX2_stampOfMostMembers 66 = .ok (.ireturn, 1) := by decide +kernel
theorem dX3_init_0 : decode cX3_init 0 = .ok (.aload_n 0, 1) := by decide +kernel
theorem dX3_init_1 : decode cX3_init 1 = .ok (.invokespecial 3, 3) := by decide +kernel
theorem dX3_init_4 : decode cX3_init 4 = .ok (.aload_n 0, 1) := by decide +kernel
theorem dX3_init_5 : decode cX3_init 5 = .ok (.aload_n 1, 1) := by decide +kernel
theorem dX3_init_6 : decode cX3_init 6 = .ok (.putfield 9, 3) := by decide +kernel
theorem dX3_init_9 : decode cX3_init 9 = .ok (.aload_n 0, 1) := by decide +kernel
theorem dX3_init_10 : decode cX3_init 10 = .ok (.iload_n 2, 1) := by decide +kernel
theorem dX3_init_11 : decode cX3_init 11 = .ok (.putfield 15, 3) := by decide +kernel
theorem dX3_init_14 : decode cX3_init 14 = .ok (.aload_n 0, 1) := by decide +kernel
theorem dX3_init_15 : decode cX3_init 15 = .ok (.aload_n 3, 1) := by decide +kernel
theorem dX3_init_16 : decode cX3_init 16 = .ok (.putfield 19, 3) := by decide +kernel
theorem dX3_init_19 : decode cX3_init 19 = .ok (.aload_n 0, 1) := by decide +kernel
theorem dX3_init_20 : decode cX3_init 20 = .ok (.getstatic 23, 3) := by decide +kernel
theorem dX3_init_23 : decode cX3_init 23 = .ok (.putfield 29, 3) := by decide +kernel
theorem dX3_init_26 : decode cX3_init 26 = .ok (.aload_n 0, 1) := by decide +kernel
theorem dX3_init_27 : decode cX3_init 27 = .ok (.iconst (-1), 1) := by decide +kernel
theorem dX3_init_28 : decode cX3_init 28 = .ok (.putfield 32, 3) := by decide +kernel
theorem dX3_init_31 : decode cX3_init 31 = .ok (.return_, 1) := by decide +kernel
theorem dX3_passLetters_0 : decode cX3_passLetters 0 = .ok (.aload_n 0, 1) := by decide +kernel
theorem dX3_passLetters_1 : decode cX3_passLetters 1 = .ok (.aload_n 0, 1) := by decide +kernel
theorem dX3_passLetters_2 : decode cX3_passLetters 2 = .ok (.getfield 100, 3) := by decide +kernel
theorem dX3_passLetters_5 : decode cX3_passLetters 5 = .ok (.putfield 103, 3) := by decide +kernel
theorem dX3_passLetters_8 : decode cX3_passLetters 8 = .ok (.aload_n 0, 1) := by decide +kernel
theorem dX3_passLetters_9 : decode cX3_passLetters 9 = .ok (.getfield 103, 3) := by decide +kernel
theorem dX3_passLetters_12 : decode cX3_passLetters 12 = .ok (.aload_n 0, 1) := by decide +kernel
theorem dX3_passLetters_13 : decode cX3_passLetters 13 = .ok (.getfield 15, 3) := by decide +kernel
theorem dX3_passLetters_16 : decode cX3_passLetters 16 = .ok (.if_icmp .ge 30, 3) := by decide +kernel
theorem dX3_passLetters_19 : decode cX3_passLetters 19 = .ok (.aload_n 0, 1) := by decide +kernel
theorem dX3_passLetters_20 : decode cX3_passLetters 20 = .ok (.getfield 9, 3) := by decide +kernel
theorem dX3_passLetters_23 : decode cX3_passLetters 23 = .ok (.aload_n 0, 1) := by decide +kernel
theorem dX3_passLetters_24 : decode cX3_passLetters 24 = .ok (.getfield 103, 3) := by decide +kernel
theorem dX3_passLetters_27 : decode cX3_passLetters 27 = .ok (.invokevirtual 177, 3) := by decide +kernel
theorem dX3_passLetters_30 : decode cX3_passLetters 30 = .ok (.ifCond .eq 16, 3) := by decide +kernel
theorem dX3_passLetters_33 : decode cX3_passLetters 33 = .ok (.aload_n 0, 1) := by decide +kernel
theorem dX3_passLetters_34 : decode cX3_passLetters 34 = .ok (.dup, 1) := by decide +kernel
theorem dX3_passLetters_35 : decode cX3_passLetters 35 = .ok (.getfield 103, 3) := by decide +kernel
theorem dX3_passLetters_38 : decode cX3_passLetters 38 = .ok (.iconst 1, 1) := by decide +kernel
theorem dX3_passLetters_39 : decode cX3_passLetters 39 = .ok (.iadd, 1) := by decide +kernel
theorem dX3_passLetters_40 : decode cX3_passLetters 40 = .ok (.putfield 103, 3) := by decide +kernel
theorem dX3_passLetters_43 : decode cX3_passLetters 43 = .ok (.goto (-35), 3) := by decide +kernel
theorem dX3_passLetters_46 : decode cX3_passLetters 46 = .ok (.aload_n 0, 1) := by decide +kernel
theorem dX3_passLetters_47 : decode cX3_passLetters 47 = .ok (.aload_n 0, 1) := by decide +kernel
theorem dX3_passLetters_48 : decode cX3_passLetters 48 = .ok (.getfield 103, 3) := by decide +kernel
theorem dX3_passLetters_51 : decode cX3_passLetters 51 = .ok (.aload_n 0, 1) := by decide +kernel
theorem dX3_passLetters_52 : decode cX3_passLetters 52 = .ok (.getfield 100, 3) := by decide +kernel
theorem dX3_passLetters_55 : decode cX3_passLetters 55 = .ok (.isub, 1) := by decide +kernel
theorem dX3_passLetters_56 : decode cX3_passLetters 56 = .ok (.bipush 8, 2) := by decide +kernel
theorem dX3_passLetters_58 : decode cX3_passLetters 58 = .ok (.if_icmp .le 9, 3) := by decide +kernel
theorem dX3_passLetters_61 : decode cX3_passLetters 61 = .ok (.getstatic 189, 3) := by decide +kernel
theorem dX3_passLetters_64 : decode cX3_passLetters 64 = .ok (.goto 6, 3) := by decide +kernel
theorem dX3_passLetters_67 : decode cX3_passLetters 67 = .ok (.getstatic 97, 3) := by decide +kernel
theorem dX3_passLetters_70 : decode cX3_passLetters 70 = .ok (.putfield 29, 3) := by decide +kernel
theorem dX3_passLetters_73 : decode cX3_passLetters 73 = .ok (.return_, 1) := by decide +kernel
theorem dX3_passDigits_0 : decode cX3_passDigits 0 = .ok (.aload_n 0, 1) := by decide +kernel
theorem dX3_passDigits_1 : decode cX3_passDigits 1 = .ok (.iconst 0, 1) := by decide +kernel
theorem dX3_passDigits_2 : decode cX3_passDigits 2 = .ok (.putfield 48, 3) := by decide +kernel
theorem dX3_passDigits_5 : decode cX3_passDigits 5 = .ok (.aload_n 0, 1) := by decide +kernel
theorem dX3_passDigits_6 : decode cX3_passDigits 6 = .ok (.aload_n 0, 1) := by decide +kernel
theorem dX3_passDigits_7 : decode cX3_passDigits 7 = .ok (.getfield 100, 3) := by decide +kernel
theorem dX3_passDigits_10 : decode cX3_passDigits 10 = .ok (.putfield 103, 3) := by decide +kernel
theorem dX3_passDigits_13 : decode cX3_passDigits 13 = .ok (.aload_n 0, 1) := by decide +kernel
theorem dX3_passDigits_14 : decode cX3_passDigits 14 = .ok (.getfield 103, 3) := by decide +kernel
theorem dX3_passDigits_17 : decode cX3_passDigits 17 = .ok (.aload_n 0, 1) := by decide +kernel
theorem dX3_passDigits_18 : decode cX3_passDigits 18 = .ok (.getfield 15, 3) := by decide +kernel
theorem dX3_passDigits_21 : decode cX3_passDigits 21 = .ok (.if_icmp .ge 57, 3) := by decide +kernel
theorem dX3_passDigits_24 : decode cX3_passDigits 24 = .ok (.aload_n 0, 1) := by decide +kernel
theorem dX3_passDigits_25 : decode cX3_passDigits 25 = .ok (.getfield 9, 3) := by decide +kernel
theorem dX3_passDigits_28 : decode cX3_passDigits 28 = .ok (.aload_n 0, 1) := by decide +kernel
theorem dX3_passDigits_29 : decode cX3_passDigits 29 = .ok (.getfield 103, 3) := by decide +kernel
theorem dX3_passDigits_32 : decode cX3_passDigits 32 = .ok (.invokevirtual 183, 3) := by decide +kernel
theorem dX3_passDigits_35 : decode cX3_passDigits 35 = .ok (.ifCond .eq 43, 3) := by decide +kernel
theorem dX3_passDigits_38 : decode cX3_passDigits 38 = .ok (.aload_n 0, 1) := by decide +kernel
theorem dX3_passDigits_39 : decode cX3_passDigits 39 = .ok (.aload_n 0, 1) := by decide +kernel
theorem dX3_passDigits_40 : decode cX3_passDigits 40 = .ok (.getfield 48, 3) := by decide +kernel
theorem dX3_passDigits_43 : decode cX3_passDigits 43 = .ok (.bipush 10, 2) := by decide +kernel
theorem dX3_passDigits_45 : decode cX3_passDigits 45 = .ok (.imul, 1) := by decide +kernel
theorem dX3_passDigits_46 : decode cX3_passDigits 46 = .ok (.aload_n 0, 1) := by decide +kernel
theorem dX3_passDigits_47 : decode cX3_passDigits 47 = .ok (.getfield 9, 3) := by decide +kernel
theorem dX3_passDigits_50 : decode cX3_passDigits 50 = .ok (.getfield 163, 3) := by decide +kernel
theorem dX3_passDigits_53 : decode cX3_passDigits 53 = .ok (.aload_n 0, 1) := by decide +kernel
theorem dX3_passDigits_54 : decode cX3_passDigits 54 = .ok (.getfield 103, 3) := by decide +kernel
theorem dX3_passDigits_57 : decode cX3_passDigits 57 = .ok (.baload, 1) := by decide +kernel
theorem dX3_passDigits_58 : decode cX3_passDigits 58 = .ok (.bipush 48, 2) := by decide +kernel
theorem dX3_passDigits_60 : decode cX3_passDigits 60 = .ok (.isub, 1) := by decide +kernel
theorem dX3_passDigits_61 : decode cX3_passDigits 61 = .ok (.iadd, 1) := by decide +kernel
theorem dX3_passDigits_62 : decode cX3_passDigits 62 = .ok (.putfield 48, 3) := by decide +kernel
theorem dX3_passDigits_65 : decode cX3_passDigits 65 = .ok (.aload_n 0, 1) := by decide +kernel
theorem dX3_passDigits_66 : decode cX3_passDigits 66 = .ok (.dup, 1) := by decide +kernel
theorem dX3_passDigits_67 : decode cX3_passDigits 67 = .ok (.getfield 103, 3) := by decide +kernel
theorem dX3_passDigits_70 : decode cX3_passDigits 70 = .ok (.iconst 1, 1) := by decide +kernel
theorem dX3_passDigits_71 : decode cX3_passDigits 71 = .ok (.iadd, 1) := by decide +kernel
theorem dX3_passDigits_72 : decode cX3_passDigits 72 = .ok (.putfield 103, 3) := by decide +kernel
theorem dX3_passDigits_75 : decode cX3_passDigits 75 = .ok (.goto (-62), 3) := by decide +kernel
theorem dX3_passDigits_78 : decode cX3_passDigits 78 = .ok (.aload_n 0, 1) := by decide +kernel
theorem dX3_passDigits_79 : decode cX3_passDigits 79 = .ok (.aload_n 0, 1) := by decide +kernel
theorem dX3_passDigits_80 : decode cX3_passDigits 80 = .ok (.getfield 103, 3) := by decide +kernel
theorem dX3_passDigits_83 : decode cX3_passDigits 83 = .ok (.aload_n 0, 1) := by decide +kernel
theorem dX3_passDigits_84 : decode cX3_passDigits 84 = .ok (.getfield 100, 3) := by decide +kernel
theorem dX3_passDigits_87 : decode cX3_passDigits 87 = .ok (.isub, 1) := by decide +kernel
theorem dX3_passDigits_88 : decode cX3_passDigits 88 = .ok (.iconst 3, 1) := by decide +kernel
theorem dX3_passDigits_89 : decode cX3_passDigits 89 = .ok (.if_icmp .le 9, 3) := by decide +kernel
theorem dX3_passDigits_92 : decode cX3_passDigits 92 = .ok (.getstatic 189, 3) := by decide +kernel
theorem dX3_passDigits_95 : decode cX3_passDigits 95 = .ok (.goto 6, 3) := by decide +kernel
theorem dX3_passDigits_98 : decode cX3_passDigits 98 = .ok (.getstatic 122, 3) := by decide +kernel
theorem dX3_passDigits_101 : decode cX3_passDigits 101 = .ok (.putfield 29, 3) := by decide +kernel
theorem dX3_passDigits_104 : decode cX3_passDigits 104 = .ok (.return_, 1) := by decide +kernel
theorem dX3_toNextToken_0 : decode cX3_toNextToken 0 = .ok (.aload_n 0, 1) := by decide +kernel
theorem dX3_toNextToken_1 : decode cX3_toNextToken 1 = .ok (.aload_n 0, 1) := by decide +kernel
theorem dX3_toNextToken_2 : decode cX3_toNextToken 2 = .ok (.getfield 103, 3) := by decide +kernel
theorem dX3_toNextToken_5 : decode cX3_toNextToken 5 = .ok (.putfield 100, 3) := by decide +kernel
theorem dX3_toNextToken_8 : decode cX3_toNextToken 8 = .ok (.aload_n 0, 1) := by decide +kernel
theorem dX3_toNextToken_9 : decode cX3_toNextToken 9 = .ok (.getfield 100, 3) := by decide +kernel
theorem dX3_toNextToken_12 : decode cX3_toNextToken 12 = .ok (.aload_n 0, 1) := by decide +kernel
theorem dX3_toNextToken_13 : decode cX3_toNextToken 13 = .ok (.getfield 15, 3) := by decide +kernel
theorem dX3_toNextToken_16 : decode cX3_toNextToken 16 = .ok (.if_icmp .ge 30, 3) := by decide +kernel
theorem dX3_toNextToken_19 : decode cX3_toNextToken 19 = .ok (.aload_n 0, 1) := by decide +kernel
theorem dX3_toNextToken_20 : decode cX3_toNextToken 20 = .ok (.getfield 9, 3) := by decide +kernel
theorem dX3_toNextToken_23 : decode cX3_toNextToken 23 = .ok (.aload_n 0, 1) := by decide +kernel
theorem dX3_toNextToken_24 : decode cX3_toNextToken 24 = .ok (.getfield 100, 3) := by decide +kernel
theorem dX3_toNextToken_27 : decode cX3_toNextToken 27 = .ok (.invokevirtual 174, 3) := by decide +kernel
theorem dX3_toNextToken_30 : decode cX3_toNextToken 30 = .ok (.ifCond .eq 16, 3) := by decide +kernel
theorem dX3_toNextToken_33 : decode cX3_toNextToken 33 = .ok (.aload_n 0, 1) := by decide +kernel
theorem dX3_toNextToken_34 : decode cX3_toNextToken 34 = .ok (.dup, 1) := by decide +kernel
theorem dX3_toNextToken_35 : decode cX3_toNextToken 35 = .ok (.getfield 100, 3) := by decide +kernel
theorem dX3_toNextToken_38 : decode cX3_toNextToken 38 = .ok (.iconst 1, 1) := by decide +kernel
theorem dX3_toNextToken_39 : decode cX3_toNextToken 39 = .ok (.iadd, 1) := by decide +kernel
theorem dX3_toNextToken_40 : decode cX3_toNextToken 40 = .ok (.putfield 100, 3) := by decide +kernel
theorem dX3_toNextToken_43 : decode cX3_toNextToken 43 = .ok (.goto (-35), 3) := by decide +kernel
theorem dX3_toNextToken_46 : decode cX3_toNextToken 46 = .ok (.aload_n 0, 1) := by decide +kernel
theorem dX3_toNextToken_47 : decode cX3_toNextToken 47 = .ok (.getfield 100, 3) := by decide +kernel
theorem dX3_toNextToken_50 : decode cX3_toNextToken 50 = .ok (.aload_n 0, 1) := by decide +kernel
theorem dX3_toNextToken_51 : decode cX3_toNextToken 51 = .ok (.getfield 15, 3) := by decide +kernel
theorem dX3_toNextToken_54 : decode cX3_toNextToken 54 = .ok (.if_icmp .lt 21, 3) := by decide +kernel
theorem dX3_toNextToken_57 : decode cX3_toNextToken 57 = .ok (.aload_n 0, 1) := by decide +kernel
theorem dX3_toNextToken_58 : decode cX3_toNextToken 58 = .ok (.aload_n 0, 1) := by decide +kernel
theorem dX3_toNextToken_59 : decode cX3_toNextToken 59 = .ok (.getfield 100, 3) := by decide +kernel
theorem dX3_toNextToken_62 : decode cX3_toNextToken 62 = .ok (.putfield 103, 3) := by decide +kernel
theorem dX3_toNextToken_65 : decode cX3_toNextToken 65 = .ok (.aload_n 0, 1) := by decide +kernel
theorem dX3_toNextToken_66 : decode cX3_toNextToken 66 = .ok (.getstatic 23, 3) := by decide +kernel
theorem dX3_toNextToken_69 : decode cX3_toNextToken 69 = .ok (.putfield 29, 3) := by decide +kernel
theorem dX3_toNextToken_72 : decode cX3_toNextToken 72 = .ok (.goto 85, 3) := by decide +kernel
theorem dX3_toNextToken_75 : decode cX3_toNextToken 75 = .ok (.aload_n 0, 1) := by decide +kernel
theorem dX3_toNextToken_76 : decode cX3_toNextToken 76 = .ok (.getfield 9, 3) := by decide +kernel
theorem dX3_toNextToken_79 : decode cX3_toNextToken 79 = .ok (.aload_n 0, 1) := by decide +kernel
theorem dX3_toNextToken_80 : decode cX3_toNextToken 80 = .ok (.getfield 100, 3) := by decide +kernel
theorem dX3_toNextToken_83 : decode cX3_toNextToken 83 = .ok (.invokevirtual 177, 3) := by decide +kernel
theorem dX3_toNextToken_86 : decode cX3_toNextToken 86 = .ok (.ifCond .eq 10, 3) := by decide +kernel
theorem dX3_toNextToken_89 : decode cX3_toNextToken 89 = .ok (.aload_n 0, 1) := by decide +kernel
theorem dX3_toNextToken_90 : decode cX3_toNextToken 90 = .ok (.invokevirtual 180, 3) := by decide +kernel
theorem dX3_toNextToken_93 : decode cX3_toNextToken 93 = .ok (.goto 64, 3) := by decide +kernel
theorem dX3_toNextToken_96 : decode cX3_toNextToken 96 = .ok (.aload_n 0, 1) := by decide +kernel
theorem dX3_toNextToken_97 : decode cX3_toNextToken 97 = .ok (.getfield 9, 3) := by decide +kernel
theorem dX3_toNextToken_100 : decode cX3_toNextToken 100 = .ok (.aload_n 0, 1) := by decide +kernel
theorem dX3_toNextToken_101 : decode cX3_toNextToken 101 = .ok (.getfield 100, 3) := by decide +kernel
theorem dX3_toNextToken_104 : decode cX3_toNextToken 104 = .ok (.invokevirtual 183, 3) := by decide +kernel
theorem dX3_toNextToken_107 : decode cX3_toNextToken 107 = .ok (.ifCond .eq 10, 3) := by decide +kernel
theorem dX3_toNextToken_110 : decode cX3_toNextToken 110 = .ok (.aload_n 0, 1) := by decide +kernel
theorem dX3_toNextToken_111 : decode cX3_toNextToken 111 = .ok (.invokevirtual 186, 3) := by decide +kernel
theorem dX3_toNextToken_114 : decode cX3_toNextToken 114 = .ok (.goto 43, 3) := by decide +kernel
theorem dX3_toNextToken_117 : decode cX3_toNextToken 117 = .ok (.aload_n 0, 1) := by decide +kernel
theorem dX3_toNextToken_118 : decode cX3_toNextToken 118 = .ok (.aload_n 0, 1) := by decide +kernel
theorem dX3_toNextToken_119 : decode cX3_toNextToken 119 = .ok (.getfield 100, 3) := by decide +kernel
theorem dX3_toNextToken_122 : decode cX3_toNextToken 122 = .ok (.iconst 1, 1) := by decide +kernel
theorem dX3_toNextToken_123 : decode cX3_toNextToken 123 = .ok (.iadd, 1) := by decide +kernel
theorem dX3_toNextToken_124 : decode cX3_toNextToken 124 = .ok (.putfield 103, 3) := by decide +kernel
theorem dX3_toNextToken_127 : decode cX3_toNextToken 127 = .ok (.aload_n 0, 1) := by decide +kernel
theorem dX3_toNextToken_128 : decode cX3_toNextToken 128 = .ok (.aload_n 0, 1) := by decide +kernel
theorem dX3_toNextToken_129 : decode cX3_toNextToken 129 = .ok (.getfield 9, 3) := by decide +kernel
theorem dX3_toNextToken_132 : decode cX3_toNextToken 132 = .ok (.getfield 163, 3) := by decide +kernel
theorem dX3_toNextToken_135 : decode cX3_toNextToken 135 = .ok (.aload_n 0, 1) := by decide +kernel
theorem dX3_toNextToken_136 : decode cX3_toNextToken 136 = .ok (.getfield 100, 3) := by decide +kernel
theorem dX3_toNextToken_139 : decode cX3_toNextToken 139 = .ok (.baload, 1) := by decide +kernel
theorem dX3_toNextToken_140 : decode cX3_toNextToken 140 = .ok (.bipush 59, 2) := by decide +kernel
theorem dX3_toNextToken_142 : decode cX3_toNextToken 142 = .ok (.if_icmp .ne 9, 3) := by decide +kernel
theorem dX3_toNextToken_145 : decode cX3_toNextToken 145 = .ok (.getstatic 148, 3) := by decide +kernel
theorem dX3_toNextToken_148 : decode cX3_toNextToken 148 = .ok (.goto 6, 3) := by decide +kernel
theorem dX3_toNextToken_151 : decode cX3_toNextToken 151 = .ok (.getstatic 189, 3) := by decide +kernel
theorem dX3_toNextToken_154 : decode cX3_toNextToken 154 = .ok (.putfield 29, 3) := by decide +kernel
theorem dX3_toNextToken_157 : decode cX3_toNextToken 157 = .ok (.return_, 1) := by decide +kernel
theorem dX3_isWord_0 : decode cX3_isWord 0 = .ok (.aload_n 0, 1) := by decide +kernel
theorem dX3_isWord_1 : decode cX3_isWord 1 = .ok (.getfield 29, 3) := by decide +kernel
theorem dX3_isWord_4 : decode cX3_isWord 4 = .ok (.getstatic 97, 3) := by decide +kernel
theorem dX3_isWord_7 : decode cX3_isWord 7 = .ok (.if_acmp .ne 26, 3) := by decide +kernel
theorem dX3_isWord_10 : decode cX3_isWord 10 = .ok (.aload_n 0, 1) := by decide +kernel
theorem dX3_isWord_11 : decode cX3_isWord 11 = .ok (.getfield 9, 3) := by decide +kernel
theorem dX3_isWord_14 : decode cX3_isWord 14 = .ok (.aload_n 0, 1) := by decide +kernel
theorem dX3_isWord_15 : decode cX3_isWord 15 = .ok (.getfield 100, 3) := by decide +kernel
theorem dX3_isWord_18 : decode cX3_isWord 18 = .ok (.aload_n 0, 1) := by decide +kernel
theorem dX3_isWord_19 : decode cX3_isWord 19 = .ok (.getfield 103, 3) := by decide +kernel
theorem dX3_isWord_22 : decode cX3_isWord 22 = .ok (.aload_n 1, 1) := by decide +kernel
theorem dX3_isWord_23 : decode cX3_isWord 23 = .ok (.invokevirtual 154, 3) := by decide +kernel
theorem dX3_isWord_26 : decode cX3_isWord 26 = .ok (.ifCond .eq 7, 3) := by decide +kernel
theorem dX3_isWord_29 : decode cX3_isWord 29 = .ok (.iconst 1, 1) := by decide +kernel
theorem dX3_isWord_30 : decode cX3_isWord 30 = .ok (.goto 4, 3) := by decide +kernel
theorem dX3_isWord_33 : decode cX3_isWord 33 = .ok (.iconst 0, 1) := by decide +kernel
theorem dX3_isWord_34 : decode cX3_isWord 34 = .ok (.ireturn, 1) := by decide +kernel
theorem dX3_fail_0 : decode cX3_fail 0 = .ok (.aload_n 0, 1) := by decide +kernel
theorem dX3_fail_1 : decode cX3_fail 1 = .ok (.iload_n 1, 1) := by decide +kernel
theorem dX3_fail_2 : decode cX3_fail 2 = .ok (.putfield 151, 3) := by decide +kernel
theorem dX3_fail_5 : decode cX3_fail 5 = .ok (.aload_n 0, 1) := by decide +kernel
theorem dX3_fail_6 : decode cX3_fail 6 = .ok (.aload_n 0, 1) := by decide +kernel
theorem dX3_fail_7 : decode cX3_fail 7 = .ok (.getfield 100, 3) := by decide +kernel
theorem dX3_fail_10 : decode cX3_fail 10 = .ok (.putfield 32, 3) := by decide +kernel
theorem dX3_fail_13 : decode cX3_fail 13 = .ok (.iconst 0, 1) := by decide +kernel
theorem dX3_fail_14 : decode cX3_fail 14 = .ok (.ireturn, 1) := by decide +kernel
theorem dX3_passWord_0 : decode cX3_passWord 0 = .ok (.aload_n 0, 1) := by decide +kernel
theorem dX3_passWord_1 : decode cX3_passWord 1 = .ok (.aload_n 1, 1) := by decide +kernel
theorem dX3_passWord_2 : decode cX3_passWord 2 = .ok (.invokevirtual 66, 3) := by decide +kernel
theorem dX3_passWord_5 : decode cX3_passWord 5 = .ok (.ifCond .ne 9, 3) := by decide +kernel
theorem dX3_passWord_8 : decode cX3_passWord 8 = .ok (.aload_n 0, 1) := by decide +kernel
theorem dX3_passWord_9 : decode cX3_passWord 9 = .ok (.iconst 1, 1) := by decide +kernel
theorem dX3_passWord_10 : decode cX3_passWord 10 = .ok (.invokevirtual 90, 3) := by decide +kernel
theorem dX3_passWord_13 : decode cX3_passWord 13 = .ok (.ireturn, 1) := by decide +kernel
theorem dX3_passWord_14 : decode cX3_passWord 14 = .ok (.aload_n 0, 1) := by decide +kernel
theorem dX3_passWord_15 : decode cX3_passWord 15 = .ok (.invokevirtual 35, 3) := by decide +kernel
theorem dX3_passWord_18 : decode cX3_passWord 18 = .ok (.iconst 1, 1) := by decide +kernel
theorem dX3_passWord_19 : decode cX3_passWord 19 = .ok (.ireturn, 1) := by decide +kernel
theorem dX3_isNumber_0 : decode cX3_isNumber 0 = .ok (.aload_n 0, 1) := by decide +kernel
theorem dX3_isNumber_1 : decode cX3_isNumber 1 = .ok (.getfield 29, 3) := by decide +kernel
theorem dX3_isNumber_4 : decode cX3_isNumber 4 = .ok (.getstatic 122, 3) := by decide +kernel
theorem dX3_isNumber_7 : decode cX3_isNumber 7 = .ok (.if_acmp .eq 9, 3) := by decide +kernel
theorem dX3_isNumber_10 : decode cX3_isNumber 10 = .ok (.aload_n 0, 1) := by decide +kernel
theorem dX3_isNumber_11 : decode cX3_isNumber 11 = .ok (.iconst 1, 1) := by decide +kernel
theorem dX3_isNumber_12 : decode cX3_isNumber 12 = .ok (.invokevirtual 90, 3) := by decide +kernel
theorem dX3_isNumber_15 : decode cX3_isNumber 15 = .ok (.ireturn, 1) := by decide +kernel
theorem dX3_isNumber_16 : decode cX3_isNumber 16 = .ok (.aload_n 0, 1) := by decide +kernel
theorem dX3_isNumber_17 : decode cX3_isNumber 17 = .ok (.getfield 48, 3) := by decide +kernel
theorem dX3_isNumber_20 : decode cX3_isNumber 20 = .ok (.iload_n 1, 1) := by decide +kernel
theorem dX3_isNumber_21 : decode cX3_isNumber 21 = .ok (.if_icmp .lt 11, 3) := by decide +kernel
theorem dX3_isNumber_24 : decode cX3_isNumber 24 = .ok (.aload_n 0, 1) := by decide +kernel
theorem dX3_isNumber_25 : decode cX3_isNumber 25 = .ok (.getfield 48, 3) := by decide +kernel
theorem dX3_isNumber_28 : decode cX3_isNumber 28 = .ok (.iload_n 2, 1) := by decide +kernel
theorem dX3_isNumber_29 : decode cX3_isNumber 29 = .ok (.if_icmp .le 11, 3) := by decide +kernel
theorem dX3_isNumber_32 : decode cX3_isNumber 32 = .ok (.aload_n 0, 1) := by decide +kernel
theorem dX3_isNumber_33 : decode cX3_isNumber 33 = .ok (.iconst 3, 1) := by decide +kernel
theorem dX3_isNumber_34 : decode cX3_isNumber 34 = .ok (.invokevirtual 90, 3) := by decide +kernel
theorem dX3_isNumber_37 : decode cX3_isNumber 37 = .ok (.ifCond .eq 7, 3) := by decide +kernel
theorem dX3_isNumber_40 : decode cX3_isNumber 40 = .ok (.iconst 1, 1) := by decide +kernel
theorem dX3_isNumber_41 : decode cX3_isNumber 41 = .ok (.goto 4, 3) := by decide +kernel
theorem dX3_isNumber_44 : decode cX3_isNumber 44 = .ok (.iconst 0, 1) := by decide +kernel
theorem dX3_isNumber_45 : decode cX3_isNumber 45 = .ok (.ireturn, 1) := by decide +kernel
theorem dX5_begin_0 : decode cX5_begin 0 = .ok (.aload_n 0, 1) := by decide +kernel
theorem dX5_begin_1 : decode cX5_begin 1 = .ok (.iload_n 1, 1) := by decide +kernel
theorem dX5_begin_2 : decode cX5_begin 2 = .ok (.putfield 29, 3) := by decide +kernel
theorem dX5_begin_5 : decode cX5_begin 5 = .ok (.aload_n 0, 1) := by decide +kernel
theorem dX5_begin_6 : decode cX5_begin 6 = .ok (.iload_n 2, 1) := by decide +kernel
theorem dX5_begin_7 : decode cX5_begin 7 = .ok (.putfield 33, 3) := by decide +kernel
theorem dX5_begin_10 : decode cX5_begin 10 = .ok (.aload_n 0, 1) := by decide +kernel
theorem dX5_begin_11 : decode cX5_begin 11 = .ok (.iconst 0, 1) := by decide +kernel
theorem dX5_begin_12 : decode cX5_begin 12 = .ok (.putfield 36, 3) := by decide +kernel
theorem dX5_begin_15 : decode cX5_begin 15 = .ok (.aload_n 0, 1) := by decide +kernel
theorem dX5_begin_16 : decode cX5_begin 16 = .ok (.iconst 0, 1) := by decide +kernel
theorem dX5_begin_17 : decode cX5_begin 17 = .ok (.putfield 39, 3) := by decide +kernel
theorem dX5_begin_20 : decode cX5_begin 20 = .ok (.aload_n 0, 1) := by decide +kernel
theorem dX5_begin_21 : decode cX5_begin 21 = .ok (.iconst 0, 1) := by decide +kernel
theorem dX5_begin_22 : decode cX5_begin 22 = .ok (.putfield 42, 3) := by decide +kernel
theorem dX5_begin_25 : decode cX5_begin 25 = .ok (.aload_n 0, 1) := by decide +kernel
theorem dX5_begin_26 : decode cX5_begin 26 = .ok (.iconst 0, 1) := by decide +kernel
theorem dX5_begin_27 : decode cX5_begin 27 = .ok (.putfield 45, 3) := by decide +kernel
theorem dX5_begin_30 : decode cX5_begin 30 = .ok (.iconst 0, 1) := by decide +kernel
theorem dX5_begin_31 : decode cX5_begin 31 = .ok (.istore_n 3, 1) := by decide +kernel
theorem dX5_begin_32 : decode cX5_begin 32 = .ok (.iload_n 3, 1) := by decide +kernel
theorem dX5_begin_33 : decode cX5_begin 33 = .ok (.bipush 6, 2) := by decide +kernel
theorem dX5_begin_35 : decode cX5_begin 35 = .ok (.if_icmp .ge 29, 3) := by decide +kernel
theorem dX5_begin_38 : decode cX5_begin 38 = .ok (.aload_n 0, 1) := by decide +kernel
theorem dX5_begin_39 : decode cX5_begin 39 = .ok (.getfield 19, 3) := by decide +kernel
theorem dX5_begin_42 : decode cX5_begin 42 = .ok (.iload_n 3, 1) := by decide +kernel
theorem dX5_begin_43 : decode cX5_begin 43 = .ok (.aaload, 1) := by decide +kernel
theorem dX5_begin_44 : decode cX5_begin 44 = .ok (.iconst 0, 1) := by decide +kernel
theorem dX5_begin_45 : decode cX5_begin 45 = .ok (.putfield 48, 3) := by decide +kernel
theorem dX5_begin_48 : decode cX5_begin 48 = .ok (.aload_n 0, 1) := by decide +kernel
theorem dX5_begin_49 : decode cX5_begin 49 = .ok (.getfield 19, 3) := by decide +kernel
theorem dX5_begin_52 : decode cX5_begin 52 = .ok (.iload_n 3, 1) := by decide +kernel
theorem dX5_begin_53 : decode cX5_begin 53 = .ok (.aaload, 1) := by decide +kernel
theorem dX5_begin_54 : decode cX5_begin 54 = .ok (.iconst 0, 1) := by decide +kernel
theorem dX5_begin_55 : decode cX5_begin 55 = .ok (.putfield 52, 3) := by decide +kernel
theorem dX5_begin_58 : decode cX5_begin 58 = .ok (.iinc 3 1, 3) := by decide +kernel
theorem dX5_begin_61 : decode cX5_begin 61 = .ok (.goto (-29), 3) := by decide +kernel
theorem dX5_begin_64 : decode cX5_begin 64 = .ok (.return_, 1) := by decide +kernel
theorem dX3_passSemicolon_0 : decode cX3_passSemicolon 0 = .ok (.aload_n 0, 1) := by decide +kernel
theorem dX3_passSemicolon_1 : decode cX3_passSemicolon 1 = .ok (.getfield 29, 3) := by decide +kernel
theorem dX3_passSemicolon_4 : decode cX3_passSemicolon 4 = .ok (.getstatic 148, 3) := by decide +kernel
theorem dX3_passSemicolon_7 : decode cX3_passSemicolon 7 = .ok (.if_acmp .eq 9, 3) := by decide +kernel
theorem dX3_passSemicolon_10 : decode cX3_passSemicolon 10 = .ok (.aload_n 0, 1) := by decide +kernel
theorem dX3_passSemicolon_11 : decode cX3_passSemicolon 11 = .ok (.iconst 1, 1) := by decide +kernel
theorem dX3_passSemicolon_12 : decode cX3_passSemicolon 12 = .ok (.invokevirtual 90, 3) := by decide +kernel
theorem dX3_passSemicolon_15 : decode cX3_passSemicolon 15 = .ok (.ireturn, 1) := by decide +kernel
theorem dX3_passSemicolon_16 : decode cX3_passSemicolon 16 = .ok (.aload_n 0, 1) := by decide +kernel
theorem dX3_passSemicolon_17 : decode cX3_passSemicolon 17 = .ok (.invokevirtual 35, 3) := by decide +kernel
theorem dX3_passSemicolon_20 : decode cX3_passSemicolon 20 = .ok (.iconst 1, 1) := by decide +kernel
theorem dX3_passSemicolon_21 : decode cX3_passSemicolon 21 = .ok (.ireturn, 1) := by decide +kernel
theorem dX5_setNamed_0 : decode cX5_setNamed 0 = .ok (.iconst 0, 1) := by decide +kernel
theorem dX5_setNamed_1 : decode cX5_setNamed 1 = .ok (.istore 4, 2) := by decide +kernel
theorem dX5_setNamed_3 : decode cX5_setNamed 3 = .ok (.iload 4, 2) := by decide +kernel
theorem dX5_setNamed_5 : decode cX5_setNamed 5 = .ok (.aload_n 0, 1) := by decide +kernel
theorem dX5_setNamed_6 : decode cX5_setNamed 6 = .ok (.getfield 36, 3) := by decide +kernel
theorem dX5_setNamed_9 : decode cX5_setNamed 9 = .ok (.if_icmp .ge 31, 3) := by decide +kernel
theorem dX5_setNamed_12 : decode cX5_setNamed 12 = .ok (.aload_n 1, 1) := by decide +kernel
theorem dX5_setNamed_13 : decode cX5_setNamed 13 = .ok (.iload_n 2, 1) := by decide +kernel
theorem dX5_setNamed_14 : decode cX5_setNamed 14 = .ok (.iload_n 3, 1) := by decide +kernel
theorem dX5_setNamed_15 : decode cX5_setNamed 15 = .ok (.aload_n 0, 1) := by decide +kernel
theorem dX5_setNamed_16 : decode cX5_setNamed 16 = .ok (.getfield 11, 3) := by decide +kernel
theorem dX5_setNamed_19 : decode cX5_setNamed 19 = .ok (.iload 4, 2) := by decide +kernel
theorem dX5_setNamed_21 : decode cX5_setNamed 21 = .ok (.aaload, 1) := by decide +kernel
theorem dX5_setNamed_22 : decode cX5_setNamed 22 = .ok (.getfield 72, 3) := by decide +kernel
theorem dX5_setNamed_25 : decode cX5_setNamed 25 = .ok (.invokevirtual 76, 3) := by decide +kernel
theorem dX5_setNamed_28 : decode cX5_setNamed 28 = .ok (.ifCond .eq 6, 3) := by decide +kernel
theorem dX5_setNamed_31 : decode cX5_setNamed 31 = .ok (.iload 4, 2) := by decide +kernel
theorem dX5_setNamed_33 : decode cX5_setNamed 33 = .ok (.ireturn, 1) := by decide +kernel
theorem dX5_setNamed_34 : decode cX5_setNamed 34 = .ok (.iinc 4 1, 3) := by decide +kernel
theorem dX5_setNamed_37 : decode cX5_setNamed 37 = .ok (.goto (-34), 3) := by decide +kernel
theorem dX5_setNamed_40 : decode cX5_setNamed 40 = .ok (.iconst (-1), 1) := by decide +kernel
theorem dX5_setNamed_41 : decode cX5_setNamed 41 = .ok (.ireturn, 1) := by decide +kernel
theorem dJ5_init_d00df_0 : decode cJ5_init_d00df 0 = .ok (.aload_n 0, 1) := by decide +kernel
theorem dJ5_init_d00df_1 : decode cJ5_init_d00df 1 = .ok (.invokespecial 3, 3) := by decide +kernel
theorem dJ5_init_d00df_4 : decode cJ5_init_d00df 4 = .ok (.getstatic 18, 3) := by decide +kernel
theorem dJ5_init_d00df_7 : decode cJ5_init_d00df 7 = .ok (.ifCond .eq 18, 3) := by decide +kernel
theorem dJ5_init_d00df_10 : decode cJ5_init_d00df 10 = .ok (.aload_n 0, 1) := by decide +kernel
theorem dJ5_init_d00df_11 : decode cJ5_init_d00df 11 = .ok (.iload_n 1, 1) := by decide +kernel
theorem dJ5_init_d00df_12 : decode cJ5_init_d00df 12 = .ok (.newarray .byte, 2) := by decide +kernel
theorem dJ5_init_d00df_14 : decode cJ5_init_d00df 14 = .ok (.putfield 15, 3) := by decide +kernel
theorem dJ5_init_d00df_17 : decode cJ5_init_d00df 17 = .ok (.aload_n 0, 1) := by decide +kernel
theorem dJ5_init_d00df_18 : decode cJ5_init_d00df 18 = .ok (.iconst 0, 1) := by decide +kernel
theorem dJ5_init_d00df_19 : decode cJ5_init_d00df 19 = .ok (.putfield 22, 3) := by decide +kernel
theorem dJ5_init_d00df_22 : decode cJ5_init_d00df 22 = .ok (.goto 16, 3) := by decide +kernel
theorem dJ5_init_d00df_25 : decode cJ5_init_d00df 25 = .ok (.aload_n 0, 1) := by decide +kernel
theorem dJ5_init_d00df_26 : decode cJ5_init_d00df 26 = .ok (.iload_n 1, 1) := by decide +kernel
theorem dJ5_init_d00df_27 : decode cJ5_init_d00df 27 = .ok (.invokestatic 26, 3) := by decide +kernel
theorem dJ5_init_d00df_30 : decode cJ5_init_d00df 30 = .ok (.putfield 15, 3) := by decide +kernel
theorem dJ5_init_d00df_33 : decode cJ5_init_d00df 33 = .ok (.aload_n 0, 1) := by decide +kernel
theorem dJ5_init_d00df_34 : decode cJ5_init_d00df 34 = .ok (.iconst 1, 1) := by decide +kernel
theorem dJ5_init_d00df_35 : decode cJ5_init_d00df 35 = .ok (.putfield 22, 3) := by decide +kernel
theorem dJ5_init_d00df_38 : decode cJ5_init_d00df 38 = .ok (.return_, 1) := by decide +kernel
theorem dJ4_init_da8c8_0 : decode cJ4_init_da8c8 0 = .ok (.aload_n 0, 1) := by decide +kernel
theorem dJ4_init_da8c8_1 : decode cJ4_init_da8c8 1 = .ok (.bipush 16, 2) := by decide +kernel
theorem dJ4_init_da8c8_3 : decode cJ4_init_da8c8 3 = .ok (.invokespecial 1, 3) := by decide +kernel
theorem dJ4_init_da8c8_6 : decode cJ4_init_da8c8 6 = .ok (.return_, 1) := by decide +kernel
theorem dJ8_newLength_cabcc_0 : decode cJ8_newLength_cabcc 0 = .ok (.iload_n 0, 1) := by decide +kernel
theorem dJ8_newLength_cabcc_1 : decode cJ8_newLength_cabcc 1 = .ok (.iload_n 1, 1) := by decide +kernel
theorem dJ8_newLength_cabcc_2 : decode cJ8_newLength_cabcc 2 = .ok (.iload_n 2, 1) := by decide +kernel
theorem dJ8_newLength_cabcc_3 : decode cJ8_newLength_cabcc 3 = .ok (.invokestatic 194, 3) := by decide +kernel
theorem dJ8_newLength_cabcc_6 : decode cJ8_newLength_cabcc 6 = .ok (.iadd, 1) := by decide +kernel
theorem dJ8_newLength_cabcc_7 : decode cJ8_newLength_cabcc 7 = .ok (.istore_n 3, 1) := by decide +kernel
theorem dJ8_newLength_cabcc_8 : decode cJ8_newLength_cabcc 8 = .ok (.iconst 0, 1) := by decide +kernel
theorem dJ8_newLength_cabcc_9 : decode cJ8_newLength_cabcc 9 = .ok (.iload_n 3, 1) := by decide +kernel
theorem dJ8_newLength_cabcc_10 : decode cJ8_newLength_cabcc 10 = .ok (.if_icmp .ge 11, 3) := by decide +kernel
theorem dJ8_newLength_cabcc_13 : decode cJ8_newLength_cabcc 13 = .ok (.iload_n 3, 1) := by decide +kernel
theorem dJ8_newLength_cabcc_14 : decode cJ8_newLength_cabcc 14 = .ok (.ldc 200, 2) := by decide +kernel
theorem dJ8_newLength_cabcc_16 : decode cJ8_newLength_cabcc 16 = .ok (.if_icmp .gt 5, 3) := by decide +kernel
theorem dJ8_newLength_cabcc_19 : decode cJ8_newLength_cabcc 19 = .ok (.iload_n 3, 1) := by decide +kernel
theorem dJ8_newLength_cabcc_20 : decode cJ8_newLength_cabcc 20 = .ok (.ireturn, 1) := by decide +kernel
theorem dJ8_newLength_cabcc_21 : decode cJ8_newLength_cabcc 21 = .ok (.iload_n 0, 1) := by decide +kernel
theorem dJ8_newLength_cabcc_22 : decode cJ8_newLength_cabcc 22 = .ok (.iload_n 1, 1) := by decide +kernel
theorem dJ8_newLength_cabcc_23 : decode cJ8_newLength_cabcc 23 = .ok (.invokestatic 201, 3) := by decide +kernel
theorem dJ8_newLength_cabcc_26 : decode cJ8_newLength_cabcc 26 = .ok (.ireturn, 1) := by decide +kernel
theorem dJ5_newCapacity_0f7a4_0 : decode cJ5_newCapacity_0f7a4 0 = .ok (.aload_n 0, 1) := by decide +kernel
theorem dJ5_newCapacity_0f7a4_1 : decode cJ5_newCapacity_0f7a4 1 = .ok (.getfield 15, 3) := by decide +kernel
theorem dJ5_newCapacity_0f7a4_4 : decode cJ5_newCapacity_0f7a4 4 = .ok (.arraylength, 1) := by decide +kernel
theorem dJ5_newCapacity_0f7a4_5 : decode cJ5_newCapacity_0f7a4 5 = .ok (.istore_n 2, 1) := by decide +kernel
theorem dJ5_newCapacity_0f7a4_6 : decode cJ5_newCapacity_0f7a4 6 = .ok (.iload_n 1, 1) := by decide +kernel
theorem dJ5_newCapacity_0f7a4_7 : decode cJ5_newCapacity_0f7a4 7 = .ok (.aload_n 0, 1) := by decide +kernel
theorem dJ5_newCapacity_0f7a4_8 : decode cJ5_newCapacity_0f7a4 8 = .ok (.getfield 22, 3) := by decide +kernel
theorem dJ5_newCapacity_0f7a4_11 : decode cJ5_newCapacity_0f7a4 11 = .ok (.ishl, 1) := by decide +kernel
theorem dJ5_newCapacity_0f7a4_12 : decode cJ5_newCapacity_0f7a4 12 = .ok (.istore_n 3, 1) := by decide +kernel
theorem dJ5_newCapacity_0f7a4_13 : decode cJ5_newCapacity_0f7a4 13 = .ok (.iload_n 3, 1) := by decide +kernel
theorem dJ5_newCapacity_0f7a4_14 : decode cJ5_newCapacity_0f7a4 14 = .ok (.iload_n 2, 1) := by decide +kernel
theorem dJ5_newCapacity_0f7a4_15 : decode cJ5_newCapacity_0f7a4 15 = .ok (.isub, 1) := by decide +kernel
theorem dJ5_newCapacity_0f7a4_16 : decode cJ5_newCapacity_0f7a4 16 = .ok (.istore 4, 2) := by decide +kernel
theorem dJ5_newCapacity_0f7a4_18 : decode cJ5_newCapacity_0f7a4 18 = .ok (.iload_n 2, 1) := by decide +kernel
theorem dJ5_newCapacity_0f7a4_19 : decode cJ5_newCapacity_0f7a4 19 = .ok (.iload 4, 2) := by decide +kernel
theorem dJ5_newCapacity_0f7a4_21 : decode cJ5_newCapacity_0f7a4 21 = .ok (.iload_n 2, 1) := by decide +kernel
theorem dJ5_newCapacity_0f7a4_22 : decode cJ5_newCapacity_0f7a4 22 = .ok (.iconst 2, 1) := by decide +kernel
theorem dJ5_newCapacity_0f7a4_23 : decode cJ5_newCapacity_0f7a4 23 = .ok (.aload_n 0, 1) := by decide +kernel
theorem dJ5_newCapacity_0f7a4_24 : decode cJ5_newCapacity_0f7a4 24 = .ok (.getfield 22, 3) := by decide +kernel
theorem dJ5_newCapacity_0f7a4_27 : decode cJ5_newCapacity_0f7a4 27 = .ok (.ishl, 1) := by decide +kernel
theorem dJ5_newCapacity_0f7a4_28 : decode cJ5_newCapacity_0f7a4 28 = .ok (.iadd, 1) := by decide +kernel
theorem dJ5_newCapacity_0f7a4_29 : decode cJ5_newCapacity_0f7a4 29 = .ok (.invokestatic 114, 3) := by decide +kernel
theorem dJ5_newCapacity_0f7a4_32 : decode cJ5_newCapacity_0f7a4 32 = .ok (.istore 5, 2) := by decide +kernel
theorem dJ5_newCapacity_0f7a4_34 : decode cJ5_newCapacity_0f7a4 34 = .ok (.iload 5, 2) := by decide +kernel
theorem dJ5_newCapacity_0f7a4_36 : decode cJ5_newCapacity_0f7a4 36 = .ok (.ldc 39, 2) := by decide +kernel
theorem dJ5_newCapacity_0f7a4_38 : decode cJ5_newCapacity_0f7a4 38 = .ok (.if_icmp .ne 13, 3) := by decide +kernel
theorem dJ5_newCapacity_0f7a4_41 : decode cJ5_newCapacity_0f7a4 41 = .ok (.new 120, 3) := by decide +kernel
theorem dJ5_newCapacity_0f7a4_44 : decode cJ5_newCapacity_0f7a4 44 = .ok (.dup, 1) := by decide +kernel
theorem dJ5_newCapacity_0f7a4_45 : decode cJ5_newCapacity_0f7a4 45 = .ok (.ldc 122, 2) := by decide +kernel
theorem dJ5_newCapacity_0f7a4_47 : decode cJ5_newCapacity_0f7a4 47 = .ok (.invokespecial 124, 3) := by decide +kernel
theorem dJ5_newCapacity_0f7a4_50 : decode cJ5_newCapacity_0f7a4 50 = .ok (.athrow, 1) := by decide +kernel
theorem dJ5_newCapacity_0f7a4_51 : decode cJ5_newCapacity_0f7a4 51 = .ok (.iload 5, 2) := by decide +kernel
theorem dJ5_newCapacity_0f7a4_53 : decode cJ5_newCapacity_0f7a4 53 = .ok (.aload_n 0, 1) := by decide +kernel
theorem dJ5_newCapacity_0f7a4_54 : decode cJ5_newCapacity_0f7a4 54 = .ok (.getfield 22, 3) := by decide +kernel
theorem dJ5_newCapacity_0f7a4_57 : decode cJ5_newCapacity_0f7a4 57 = .ok (.ishr, 1) := by decide +kernel
theorem dJ5_newCapacity_0f7a4_58 : decode cJ5_newCapacity_0f7a4 58 = .ok (.ireturn, 1) := by decide +kernel
theorem dJ7_copyOf_9075b_0 : decode cJ7_copyOf_9075b 0 = .ok (.iload_n 1, 1) := by decide +kernel
theorem dJ7_copyOf_9075b_1 : decode cJ7_copyOf_9075b 1 = .ok (.aload_n 0, 1) := by decide +kernel
theorem dJ7_copyOf_9075b_2 : decode cJ7_copyOf_9075b 2 = .ok (.arraylength, 1) := by decide +kernel
theorem dJ7_copyOf_9075b_3 : decode cJ7_copyOf_9075b 3 = .ok (.if_icmp .ne 11, 3) := by decide +kernel
theorem dJ7_copyOf_9075b_6 : decode cJ7_copyOf_9075b 6 = .ok (.aload_n 0, 1) := by decide +kernel
theorem dJ7_copyOf_9075b_7 : decode cJ7_copyOf_9075b 7 = .ok (.invokevirtual 310, 3) := by decide +kernel
theorem dJ7_copyOf_9075b_10 : decode cJ7_copyOf_9075b 10 = .ok (.checkcast 311, 3) := by decide +kernel
theorem dJ7_copyOf_9075b_13 : decode cJ7_copyOf_9075b 13 = .ok (.areturn, 1) := by decide +kernel
theorem dJ7_copyOf_9075b_14 : decode cJ7_copyOf_9075b 14 = .ok (.iload_n 1, 1) := by decide +kernel
theorem dJ7_copyOf_9075b_15 : decode cJ7_copyOf_9075b 15 = .ok (.newarray .byte, 2) := by decide +kernel
theorem dJ7_copyOf_9075b_17 : decode cJ7_copyOf_9075b 17 = .ok (.astore_n 2, 1) := by decide +kernel
theorem dJ7_copyOf_9075b_18 : decode cJ7_copyOf_9075b 18 = .ok (.aload_n 0, 1) := by decide +kernel
theorem dJ7_copyOf_9075b_19 : decode cJ7_copyOf_9075b 19 = .ok (.iconst 0, 1) := by decide +kernel
theorem dJ7_copyOf_9075b_20 : decode cJ7_copyOf_9075b 20 = .ok (.aload_n 2, 1) := by decide +kernel
theorem dJ7_copyOf_9075b_21 : decode cJ7_copyOf_9075b 21 = .ok (.iconst 0, 1) := by decide +kernel
theorem dJ7_copyOf_9075b_22 : decode cJ7_copyOf_9075b 22 = .ok (.aload_n 0, 1) := by decide +kernel
theorem dJ7_copyOf_9075b_23 : decode cJ7_copyOf_9075b 23 = .ok (.arraylength, 1) := by decide +kernel
theorem dJ7_copyOf_9075b_24 : decode cJ7_copyOf_9075b 24 = .ok (.iload_n 1, 1) := by decide +kernel
theorem dJ7_copyOf_9075b_25 : decode cJ7_copyOf_9075b 25 = .ok (.invokestatic 304, 3) := by decide +kernel
theorem dJ7_copyOf_9075b_28 : decode cJ7_copyOf_9075b 28 = .ok (.invokestatic 150, 3) := by decide +kernel
theorem dJ7_copyOf_9075b_31 : decode cJ7_copyOf_9075b 31 = .ok (.aload_n 2, 1) := by decide +kernel
theorem dJ7_copyOf_9075b_32 : decode cJ7_copyOf_9075b 32 = .ok (.areturn, 1) := by decide +kernel
theorem dJ5_ensureCapacityInternal_d00df_0 : decode cJ5_ensureCapacityInternal_d00df 0 = .ok (.aload_n 0, 1) := by decide +kernel
theorem dJ5_ensureCapacityInternal_d00df_1 : decode cJ5_ensureCapacityInternal_d00df 1 = .ok (.getfield 15, 3) := by decide +kernel
theorem dJ5_ensureCapacityInternal_d00df_4 : decode cJ5_ensureCapacityInternal_d00df 4 = .ok (.arraylength, 1) := by decide +kernel
theorem dJ5_ensureCapacityInternal_d00df_5 : decode cJ5_ensureCapacityInternal_d00df 5 = .ok (.aload_n 0, 1) := by decide +kernel
theorem dJ5_ensureCapacityInternal_d00df_6 : decode cJ5_ensureCapacityInternal_d00df 6 = .ok (.getfield 22, 3) := by decide +kernel
theorem dJ5_ensureCapacityInternal_d00df_9 : decode cJ5_ensureCapacityInternal_d00df 9 = .ok (.ishr, 1) := by decide +kernel
theorem dJ5_ensureCapacityInternal_d00df_10 : decode cJ5_ensureCapacityInternal_d00df 10 = .ok (.istore_n 2, 1) := by decide +kernel
theorem dJ5_ensureCapacityInternal_d00df_11 : decode cJ5_ensureCapacityInternal_d00df 11 = .ok (.iload_n 1, 1) := by decide +kernel
theorem dJ5_ensureCapacityInternal_d00df_12 : decode cJ5_ensureCapacityInternal_d00df 12 = .ok (.iload_n 2, 1) := by decide +kernel
theorem dJ5_ensureCapacityInternal_d00df_13 : decode cJ5_ensureCapacityInternal_d00df 13 = .ok (.isub, 1) := by decide +kernel
theorem dJ5_ensureCapacityInternal_d00df_14 : decode cJ5_ensureCapacityInternal_d00df 14 = .ok (.ifCond .le 24, 3) := by decide +kernel
theorem dJ5_ensureCapacityInternal_d00df_17 : decode cJ5_ensureCapacityInternal_d00df 17 = .ok (.aload_n 0, 1) := by decide +kernel
theorem dJ5_ensureCapacityInternal_d00df_18 : decode cJ5_ensureCapacityInternal_d00df 18 = .ok (.aload_n 0, 1) := by decide +kernel
theorem dJ5_ensureCapacityInternal_d00df_19 : decode cJ5_ensureCapacityInternal_d00df 19 = .ok (.getfield 15, 3) := by decide +kernel
theorem dJ5_ensureCapacityInternal_d00df_22 : decode cJ5_ensureCapacityInternal_d00df 22 = .ok (.aload_n 0, 1) := by decide +kernel
theorem dJ5_ensureCapacityInternal_d00df_23 : decode cJ5_ensureCapacityInternal_d00df 23 = .ok (.iload_n 1, 1) := by decide +kernel
theorem dJ5_ensureCapacityInternal_d00df_24 : decode cJ5_ensureCapacityInternal_d00df 24 = .ok (.invokevirtual 104, 3) := by decide +kernel
theorem dJ5_ensureCapacityInternal_d00df_27 : decode cJ5_ensureCapacityInternal_d00df 27 = .ok (.aload_n 0, 1) := by decide +kernel
theorem dJ5_ensureCapacityInternal_d00df_28 : decode cJ5_ensureCapacityInternal_d00df 28 = .ok (.getfield 22, 3) := by decide +kernel
theorem dJ5_ensureCapacityInternal_d00df_31 : decode cJ5_ensureCapacityInternal_d00df 31 = .ok (.ishl, 1) := by decide +kernel
theorem dJ5_ensureCapacityInternal_d00df_32 : decode cJ5_ensureCapacityInternal_d00df 32 = .ok (.invokestatic 108, 3) := by decide +kernel
theorem dJ5_ensureCapacityInternal_d00df_35 : decode cJ5_ensureCapacityInternal_d00df 35 = .ok (.putfield 15, 3) := by decide +kernel
theorem dJ5_ensureCapacityInternal_d00df_38 : decode cJ5_ensureCapacityInternal_d00df 38 = .ok (.return_, 1) := by decide +kernel
theorem dJ5_isLatin1_aae02_0 : decode cJ5_isLatin1_aae02 0 = .ok (.getstatic 18, 3) := by decide +kernel
theorem dJ5_isLatin1_aae02_3 : decode cJ5_isLatin1_aae02 3 = .ok (.ifCond .eq 14, 3) := by decide +kernel
theorem dJ5_isLatin1_aae02_6 : decode cJ5_isLatin1_aae02 6 = .ok (.aload_n 0, 1) := by decide +kernel
theorem dJ5_isLatin1_aae02_7 : decode cJ5_isLatin1_aae02 7 = .ok (.getfield 22, 3) := by decide +kernel
theorem dJ5_isLatin1_aae02_10 : decode cJ5_isLatin1_aae02 10 = .ok (.ifCond .ne 7, 3) := by decide +kernel
theorem dJ5_isLatin1_aae02_13 : decode cJ5_isLatin1_aae02 13 = .ok (.iconst 1, 1) := by decide +kernel
theorem dJ5_isLatin1_aae02_14 : decode cJ5_isLatin1_aae02 14 = .ok (.goto 4, 3) := by decide +kernel
theorem dJ5_isLatin1_aae02_17 : decode cJ5_isLatin1_aae02 17 = .ok (.iconst 0, 1) := by decide +kernel
theorem dJ5_isLatin1_aae02_18 : decode cJ5_isLatin1_aae02 18 = .ok (.ireturn, 1) := by decide +kernel
theorem dJ1_canEncode_fc78d_0 : decode cJ1_canEncode_fc78d 0 = .ok (.iload_n 0, 1) := by decide +kernel
theorem dJ1_canEncode_fc78d_1 : decode cJ1_canEncode_fc78d 1 = .ok (.sipush 255, 3) := by decide +kernel
theorem dJ1_canEncode_fc78d_4 : decode cJ1_canEncode_fc78d 4 = .ok (.if_icmp .gt 7, 3) := by decide +kernel
theorem dJ1_canEncode_fc78d_7 : decode cJ1_canEncode_fc78d 7 = .ok (.iconst 1, 1) := by decide +kernel
theorem dJ1_canEncode_fc78d_8 : decode cJ1_canEncode_fc78d 8 = .ok (.goto 4, 3) := by decide +kernel
theorem dJ1_canEncode_fc78d_11 : decode cJ1_canEncode_fc78d 11 = .ok (.iconst 0, 1) := by decide +kernel
theorem dJ1_canEncode_fc78d_12 : decode cJ1_canEncode_fc78d 12 = .ok (.ireturn, 1) := by decide +kernel
theorem dJ5_append_3fe6f_0 : decode cJ5_append_3fe6f 0 = .ok (.aload_n 0, 1) := by decide +kernel
theorem dJ5_append_3fe6f_1 : decode cJ5_append_3fe6f 1 = .ok (.aload_n 0, 1) := by decide +kernel
theorem dJ5_append_3fe6f_2 : decode cJ5_append_3fe6f 2 = .ok (.getfield 79, 3) := by decide +kernel
theorem dJ5_append_3fe6f_5 : decode cJ5_append_3fe6f 5 = .ok (.iconst 1, 1) := by decide +kernel
theorem dJ5_append_3fe6f_6 : decode cJ5_append_3fe6f 6 = .ok (.iadd, 1) := by decide +kernel
theorem dJ5_append_3fe6f_7 : decode cJ5_append_3fe6f 7 = .ok (.invokevirtual 100, 3) := by decide +kernel
theorem dJ5_append_3fe6f_10 : decode cJ5_append_3fe6f 10 = .ok (.aload_n 0, 1) := by decide +kernel
theorem dJ5_append_3fe6f_11 : decode cJ5_append_3fe6f 11 = .ok (.invokevirtual 83, 3) := by decide +kernel
theorem dJ5_append_3fe6f_14 : decode cJ5_append_3fe6f 14 = .ok (.ifCond .eq 31, 3) := by decide +kernel
theorem dJ5_append_3fe6f_17 : decode cJ5_append_3fe6f 17 = .ok (.iload_n 1, 1) := by decide +kernel
theorem dJ5_append_3fe6f_18 : decode cJ5_append_3fe6f 18 = .ok (.invokestatic 191, 3) := by decide +kernel
theorem dJ5_append_3fe6f_21 : decode cJ5_append_3fe6f 21 = .ok (.ifCond .eq 24, 3) := by decide +kernel
theorem dJ5_append_3fe6f_24 : decode cJ5_append_3fe6f 24 = .ok (.aload_n 0, 1) := by decide +kernel
theorem dJ5_append_3fe6f_25 : decode cJ5_append_3fe6f 25 = .ok (.getfield 15, 3) := by decide +kernel
theorem dJ5_append_3fe6f_28 : decode cJ5_append_3fe6f 28 = .ok (.aload_n 0, 1) := by decide +kernel
theorem dJ5_append_3fe6f_29 : decode cJ5_append_3fe6f 29 = .ok (.dup, 1) := by decide +kernel
theorem dJ5_append_3fe6f_30 : decode cJ5_append_3fe6f 30 = .ok (.getfield 79, 3) := by decide +kernel
theorem dJ5_append_3fe6f_33 : decode cJ5_append_3fe6f 33 = .ok (.dup_x1, 1) := by decide +kernel
theorem dJ5_append_3fe6f_34 : decode cJ5_append_3fe6f 34 = .ok (.iconst 1, 1) := by decide +kernel
theorem dJ5_append_3fe6f_35 : decode cJ5_append_3fe6f 35 = .ok (.iadd, 1) := by decide +kernel
theorem dJ5_append_3fe6f_36 : decode cJ5_append_3fe6f 36 = .ok (.putfield 79, 3) := by decide +kernel
theorem dJ5_append_3fe6f_39 : decode cJ5_append_3fe6f 39 = .ok (.iload_n 1, 1) := by decide +kernel
theorem dJ5_append_3fe6f_40 : decode cJ5_append_3fe6f 40 = .ok (.i2b, 1) := by decide +kernel
theorem dJ5_append_3fe6f_41 : decode cJ5_append_3fe6f 41 = .ok (.bastore, 1) := by decide +kernel
theorem dJ5_append_3fe6f_42 : decode cJ5_append_3fe6f 42 = .ok (.goto 33, 3) := by decide +kernel
theorem dJ5_append_3fe6f_45 : decode cJ5_append_3fe6f 45 = .ok (.aload_n 0, 1) := by decide +kernel
theorem dJ5_append_3fe6f_46 : decode cJ5_append_3fe6f 46 = .ok (.invokevirtual 83, 3) := by decide +kernel
theorem dJ5_append_3fe6f_49 : decode cJ5_append_3fe6f 49 = .ok (.ifCond .eq 7, 3) := by decide +kernel
theorem dJ5_append_3fe6f_52 : decode cJ5_append_3fe6f 52 = .ok (.aload_n 0, 1) := by decide +kernel
theorem dJ5_append_3fe6f_53 : decode cJ5_append_3fe6f 53 = .ok (.invokevirtual 195, 3) := by decide +kernel
theorem dJ5_append_3fe6f_56 : decode cJ5_append_3fe6f 56 = .ok (.aload_n 0, 1) := by decide +kernel
theorem dJ5_append_3fe6f_57 : decode cJ5_append_3fe6f 57 = .ok (.getfield 15, 3) := by decide +kernel
theorem dJ5_append_3fe6f_60 : decode cJ5_append_3fe6f 60 = .ok (.aload_n 0, 1) := by decide +kernel
theorem dJ5_append_3fe6f_61 : decode cJ5_append_3fe6f 61 = .ok (.dup, 1) := by decide +kernel
theorem dJ5_append_3fe6f_62 : decode cJ5_append_3fe6f 62 = .ok (.getfield 79, 3) := by decide +kernel
theorem dJ5_append_3fe6f_65 : decode cJ5_append_3fe6f 65 = .ok (.dup_x1, 1) := by decide +kernel
theorem dJ5_append_3fe6f_66 : decode cJ5_append_3fe6f 66 = .ok (.iconst 1, 1) := by decide +kernel
theorem dJ5_append_3fe6f_67 : decode cJ5_append_3fe6f 67 = .ok (.iadd, 1) := by decide +kernel
theorem dJ5_append_3fe6f_68 : decode cJ5_append_3fe6f 68 = .ok (.putfield 79, 3) := by decide +kernel
theorem dJ5_append_3fe6f_71 : decode cJ5_append_3fe6f 71 = .ok (.iload_n 1, 1) := by decide +kernel
theorem dJ5_append_3fe6f_72 : decode cJ5_append_3fe6f 72 = .ok (.invokestatic 197, 3) := by decide +kernel
theorem dJ5_append_3fe6f_75 : decode cJ5_append_3fe6f 75 = .ok (.aload_n 0, 1) := by decide +kernel
theorem dJ5_append_3fe6f_76 : decode cJ5_append_3fe6f 76 = .ok (.areturn, 1) := by decide +kernel
theorem dJ4_append_cf468_0 : decode cJ4_append_cf468 0 = .ok (.aload_n 0, 1) := by decide +kernel
theorem dJ4_append_cf468_1 : decode cJ4_append_cf468 1 = .ok (.iload_n 1, 1) := by decide +kernel
theorem dJ4_append_cf468_2 : decode cJ4_append_cf468 2 = .ok (.invokespecial 50, 3) := by decide +kernel
theorem dJ4_append_cf468_5 : decode cJ4_append_cf468 5 = .ok (.pop, 1) := by decide +kernel
theorem dJ4_append_cf468_6 : decode cJ4_append_cf468 6 = .ok (.aload_n 0, 1) := by decide +kernel
theorem dJ4_append_cf468_7 : decode cJ4_append_cf468 7 = .ok (.areturn, 1) := by decide +kernel
theorem dJ5_getValue_6d5f1_0 : decode cJ5_getValue_6d5f1 0 = .ok (.aload_n 0, 1) := by decide +kernel
theorem dJ5_getValue_6d5f1_1 : decode cJ5_getValue_6d5f1 1 = .ok (.getfield 15, 3) := by decide +kernel
theorem dJ5_getValue_6d5f1_4 : decode cJ5_getValue_6d5f1 4 = .ok (.areturn, 1) := by decide +kernel
theorem dJ5_length_8abf5_0 : decode cJ5_length_8abf5 0 = .ok (.aload_n 0, 1) := by decide +kernel
theorem dJ5_length_8abf5_1 : decode cJ5_length_8abf5 1 = .ok (.getfield 79, 3) := by decide +kernel
theorem dJ5_length_8abf5_4 : decode cJ5_length_8abf5 4 = .ok (.ireturn, 1) := by decide +kernel
theorem dJ4_length_8abf5_0 : decode cJ4_length_8abf5 0 = .ok (.aload_n 0, 1) := by decide +kernel
theorem dJ4_length_8abf5_1 : decode cJ4_length_8abf5 1 = .ok (.invokespecial 343, 3) := by decide +kernel
theorem dJ4_length_8abf5_4 : decode cJ4_length_8abf5 4 = .ok (.ireturn, 1) := by decide +kernel
theorem dJ7_checkLength_df160_0 : decode cJ7_checkLength_df160 0 = .ok (.iload_n 1, 1) := by decide +kernel
theorem dJ7_checkLength_df160_1 : decode cJ7_checkLength_df160 1 = .ok (.iload_n 0, 1) := by decide +kernel
theorem dJ7_checkLength_df160_2 : decode cJ7_checkLength_df160 2 = .ok (.if_icmp .ge 35, 3) := by decide +kernel
theorem dJ7_checkLength_df160_5 : decode cJ7_checkLength_df160 5 = .ok (.new 43, 3) := by decide +kernel
theorem dJ7_checkLength_df160_8 : decode cJ7_checkLength_df160 8 = .ok (.dup, 1) := by decide +kernel
theorem dJ7_checkLength_df160_9 : decode cJ7_checkLength_df160 9 = .ok (.new 45, 3) := by decide +kernel
theorem dJ7_checkLength_df160_12 : decode cJ7_checkLength_df160 12 = .ok (.dup, 1) := by decide +kernel
theorem dJ7_checkLength_df160_13 : decode cJ7_checkLength_df160 13 = .ok (.invokespecial 47, 3) := by decide +kernel
theorem dJ7_checkLength_df160_16 : decode cJ7_checkLength_df160 16 = .ok (.iload_n 0, 1) := by decide +kernel
theorem dJ7_checkLength_df160_17 : decode cJ7_checkLength_df160 17 = .ok (.invokevirtual 54, 3) := by decide +kernel
theorem dJ7_checkLength_df160_20 : decode cJ7_checkLength_df160 20 = .ok (.ldc_w 337, 3) := by decide +kernel
theorem dJ7_checkLength_df160_23 : decode cJ7_checkLength_df160 23 = .ok (.invokevirtual 50, 3) := by decide +kernel
theorem dJ7_checkLength_df160_26 : decode cJ7_checkLength_df160 26 = .ok (.iload_n 1, 1) := by decide +kernel
theorem dJ7_checkLength_df160_27 : decode cJ7_checkLength_df160 27 = .ok (.invokevirtual 54, 3) := by decide +kernel
theorem dJ7_checkLength_df160_30 : decode cJ7_checkLength_df160 30 = .ok (.invokevirtual 61, 3) := by decide +kernel
theorem dJ7_checkLength_df160_33 : decode cJ7_checkLength_df160 33 = .ok (.invokespecial 65, 3) := by decide +kernel
theorem dJ7_checkLength_df160_36 : decode cJ7_checkLength_df160 36 = .ok (.athrow, 1) := by decide +kernel
theorem dJ7_checkLength_df160_37 : decode cJ7_checkLength_df160 37 = .ok (.return_, 1) := by decide +kernel
theorem dJ7_copyOfRangeByte_39247_0 : decode cJ7_copyOfRangeByte_39247 0 = .ok (.iload_n 1, 1) := by decide +kernel
theorem dJ7_copyOfRangeByte_39247_1 : decode cJ7_copyOfRangeByte_39247 1 = .ok (.iload_n 2, 1) := by decide +kernel
theorem dJ7_copyOfRangeByte_39247_2 : decode cJ7_copyOfRangeByte_39247 2 = .ok (.invokestatic 343, 3) := by decide +kernel
theorem dJ7_copyOfRangeByte_39247_5 : decode cJ7_copyOfRangeByte_39247 5 = .ok (.iload_n 2, 1) := by decide +kernel
theorem dJ7_copyOfRangeByte_39247_6 : decode cJ7_copyOfRangeByte_39247 6 = .ok (.iload_n 1, 1) := by decide +kernel
theorem dJ7_copyOfRangeByte_39247_7 : decode cJ7_copyOfRangeByte_39247 7 = .ok (.isub, 1) := by decide +kernel
theorem dJ7_copyOfRangeByte_39247_8 : decode cJ7_copyOfRangeByte_39247 8 = .ok (.istore_n 3, 1) := by decide +kernel
theorem dJ7_copyOfRangeByte_39247_9 : decode cJ7_copyOfRangeByte_39247 9 = .ok (.iload_n 3, 1) := by decide +kernel
theorem dJ7_copyOfRangeByte_39247_10 : decode cJ7_copyOfRangeByte_39247 10 = .ok (.newarray .byte, 2) := by decide +kernel
theorem dJ7_copyOfRangeByte_39247_12 : decode cJ7_copyOfRangeByte_39247 12 = .ok (.astore 4, 2) := by decide +kernel
theorem dJ7_copyOfRangeByte_39247_14 : decode cJ7_copyOfRangeByte_39247 14 = .ok (.aload_n 0, 1) := by decide +kernel
theorem dJ7_copyOfRangeByte_39247_15 : decode cJ7_copyOfRangeByte_39247 15 = .ok (.iload_n 1, 1) := by decide +kernel
theorem dJ7_copyOfRangeByte_39247_16 : decode cJ7_copyOfRangeByte_39247 16 = .ok (.aload 4, 2) := by decide +kernel
theorem dJ7_copyOfRangeByte_39247_18 : decode cJ7_copyOfRangeByte_39247 18 = .ok (.iconst 0, 1) := by decide +kernel
theorem dJ7_copyOfRangeByte_39247_19 : decode cJ7_copyOfRangeByte_39247 19 = .ok (.aload_n 0, 1) := by decide +kernel
theorem dJ7_copyOfRangeByte_39247_20 : decode cJ7_copyOfRangeByte_39247 20 = .ok (.arraylength, 1) := by decide +kernel
theorem dJ7_copyOfRangeByte_39247_21 : decode cJ7_copyOfRangeByte_39247 21 = .ok (.iload_n 1, 1) := by decide +kernel
theorem dJ7_copyOfRangeByte_39247_22 : decode cJ7_copyOfRangeByte_39247 22 = .ok (.isub, 1) := by decide +kernel
theorem dJ7_copyOfRangeByte_39247_23 : decode cJ7_copyOfRangeByte_39247 23 = .ok (.iload_n 3, 1) := by decide +kernel
theorem dJ7_copyOfRangeByte_39247_24 : decode cJ7_copyOfRangeByte_39247 24 = .ok (.invokestatic 304, 3) := by decide +kernel
theorem dJ7_copyOfRangeByte_39247_27 : decode cJ7_copyOfRangeByte_39247 27 = .ok (.invokestatic 150, 3) := by decide +kernel
theorem dJ7_copyOfRangeByte_39247_30 : decode cJ7_copyOfRangeByte_39247 30 = .ok (.aload 4, 2) := by decide +kernel
theorem dJ7_copyOfRangeByte_39247_32 : decode cJ7_copyOfRangeByte_39247 32 = .ok (.areturn, 1) := by decide +kernel
theorem dJ7_copyOfRange_39247_0 : decode cJ7_copyOfRange_39247 0 = .ok (.iload_n 1, 1) := by decide +kernel
theorem dJ7_copyOfRange_39247_1 : decode cJ7_copyOfRange_39247 1 = .ok (.ifCond .ne 9, 3) := by decide +kernel
theorem dJ7_copyOfRange_39247_4 : decode cJ7_copyOfRange_39247 4 = .ok (.iload_n 2, 1) := by decide +kernel
theorem dJ7_copyOfRange_39247_5 : decode cJ7_copyOfRange_39247 5 = .ok (.aload_n 0, 1) := by decide +kernel
theorem dJ7_copyOfRange_39247_6 : decode cJ7_copyOfRange_39247 6 = .ok (.arraylength, 1) := by decide +kernel
theorem dJ7_copyOfRange_39247_7 : decode cJ7_copyOfRange_39247 7 = .ok (.if_icmp .eq 10, 3) := by decide +kernel
theorem dJ7_copyOfRange_39247_10 : decode cJ7_copyOfRange_39247 10 = .ok (.aload_n 0, 1) := by decide +kernel
theorem dJ7_copyOfRange_39247_11 : decode cJ7_copyOfRange_39247 11 = .ok (.iload_n 1, 1) := by decide +kernel
theorem dJ7_copyOfRange_39247_12 : decode cJ7_copyOfRange_39247 12 = .ok (.iload_n 2, 1) := by decide +kernel
theorem dJ7_copyOfRange_39247_13 : decode cJ7_copyOfRange_39247 13 = .ok (.invokestatic 339, 3) := by decide +kernel
theorem dJ7_copyOfRange_39247_16 : decode cJ7_copyOfRange_39247 16 = .ok (.areturn, 1) := by decide +kernel
theorem dJ7_copyOfRange_39247_17 : decode cJ7_copyOfRange_39247 17 = .ok (.aload_n 0, 1) := by decide +kernel
theorem dJ7_copyOfRange_39247_18 : decode cJ7_copyOfRange_39247 18 = .ok (.invokevirtual 310, 3) := by decide +kernel
theorem dJ7_copyOfRange_39247_21 : decode cJ7_copyOfRange_39247 21 = .ok (.checkcast 311, 3) := by decide +kernel
theorem dJ7_copyOfRange_39247_24 : decode cJ7_copyOfRange_39247 24 = .ok (.areturn, 1) := by decide +kernel
theorem dJ0_init_db425_0 : decode cJ0_init_db425 0 = .ok (.aload_n 0, 1) := by decide +kernel
theorem dJ0_init_db425_1 : decode cJ0_init_db425 1 = .ok (.invokespecial 1, 3) := by decide +kernel
theorem dJ0_init_db425_4 : decode cJ0_init_db425 4 = .ok (.aload_n 1, 1) := by decide +kernel
theorem dJ0_init_db425_5 : decode cJ0_init_db425 5 = .ok (.invokevirtual 552, 3) := by decide +kernel
theorem dJ0_init_db425_8 : decode cJ0_init_db425 8 = .ok (.astore_n 3, 1) := by decide +kernel
theorem dJ0_init_db425_9 : decode cJ0_init_db425 9 = .ok (.aload_n 1, 1) := by decide +kernel
theorem dJ0_init_db425_10 : decode cJ0_init_db425 10 = .ok (.invokevirtual 549, 3) := by decide +kernel
theorem dJ0_init_db425_13 : decode cJ0_init_db425 13 = .ok (.istore 4, 2) := by decide +kernel
theorem dJ0_init_db425_15 : decode cJ0_init_db425 15 = .ok (.aload_n 1, 1) := by decide +kernel
theorem dJ0_init_db425_16 : decode cJ0_init_db425 16 = .ok (.invokevirtual 1047, 3) := by decide +kernel
theorem dJ0_init_db425_19 : decode cJ0_init_db425 19 = .ok (.ifCond .eq 22, 3) := by decide +kernel
theorem dJ0_init_db425_22 : decode cJ0_init_db425 22 = .ok (.aload_n 0, 1) := by decide +kernel
theorem dJ0_init_db425_23 : decode cJ0_init_db425 23 = .ok (.iconst 0, 1) := by decide +kernel
theorem dJ0_init_db425_24 : decode cJ0_init_db425 24 = .ok (.putfield 15, 3) := by decide +kernel
theorem dJ0_init_db425_27 : decode cJ0_init_db425 27 = .ok (.aload_n 0, 1) := by decide +kernel
theorem dJ0_init_db425_28 : decode cJ0_init_db425 28 = .ok (.aload_n 3, 1) := by decide +kernel
theorem dJ0_init_db425_29 : decode cJ0_init_db425 29 = .ok (.iconst 0, 1) := by decide +kernel
theorem dJ0_init_db425_30 : decode cJ0_init_db425 30 = .ok (.iload 4, 2) := by decide +kernel
theorem dJ0_init_db425_32 : decode cJ0_init_db425 32 = .ok (.invokestatic 54, 3) := by decide +kernel
theorem dJ0_init_db425_35 : decode cJ0_init_db425 35 = .ok (.putfield 9, 3) := by decide +kernel
theorem dJ0_init_db425_38 : decode cJ0_init_db425 38 = .ok (.goto 59, 3) := by decide +kernel
theorem dJ0_init_db425_41 : decode cJ0_init_db425 41 = .ok (.getstatic 38, 3) := by decide +kernel
theorem dJ0_init_db425_44 : decode cJ0_init_db425 44 = .ok (.ifCond .eq 35, 3) := by decide +kernel
theorem dJ0_init_db425_47 : decode cJ0_init_db425 47 = .ok (.aload_n 1, 1) := by decide +kernel
theorem dJ0_init_db425_48 : decode cJ0_init_db425 48 = .ok (.getfield 1048, 3) := by decide +kernel
theorem dJ0_init_db425_51 : decode cJ0_init_db425 51 = .ok (.ifCond .eq 28, 3) := by decide +kernel
theorem dJ0_init_db425_54 : decode cJ0_init_db425 54 = .ok (.aload_n 0, 1) := by decide +kernel
theorem dJ0_init_db425_55 : decode cJ0_init_db425 55 = .ok (.aload_n 3, 1) := by decide +kernel
theorem dJ0_init_db425_56 : decode cJ0_init_db425 56 = .ok (.iconst 0, 1) := by decide +kernel
theorem dJ0_init_db425_57 : decode cJ0_init_db425 57 = .ok (.iload 4, 2) := by decide +kernel
theorem dJ0_init_db425_59 : decode cJ0_init_db425 59 = .ok (.invokestatic 1051, 3) := by decide +kernel
theorem dJ0_init_db425_62 : decode cJ0_init_db425 62 = .ok (.putfield 9, 3) := by decide +kernel
theorem dJ0_init_db425_65 : decode cJ0_init_db425 65 = .ok (.aload_n 0, 1) := by decide +kernel
theorem dJ0_init_db425_66 : decode cJ0_init_db425 66 = .ok (.aload_n 0, 1) := by decide +kernel
theorem dJ0_init_db425_67 : decode cJ0_init_db425 67 = .ok (.getfield 9, 3) := by decide +kernel
theorem dJ0_init_db425_70 : decode cJ0_init_db425 70 = .ok (.iload 4, 2) := by decide +kernel
theorem dJ0_init_db425_72 : decode cJ0_init_db425 72 = .ok (.invokestatic 47, 3) := by decide +kernel
theorem dJ0_init_db425_75 : decode cJ0_init_db425 75 = .ok (.putfield 15, 3) := by decide +kernel
theorem dJ0_init_db425_78 : decode cJ0_init_db425 78 = .ok (.return_, 1) := by decide +kernel
theorem dJ0_init_db425_79 : decode cJ0_init_db425 79 = .ok (.aload_n 0, 1) := by decide +kernel
theorem dJ0_init_db425_80 : decode cJ0_init_db425 80 = .ok (.iconst 1, 1) := by decide +kernel
theorem dJ0_init_db425_81 : decode cJ0_init_db425 81 = .ok (.putfield 15, 3) := by decide +kernel
theorem dJ0_init_db425_84 : decode cJ0_init_db425 84 = .ok (.aload_n 0, 1) := by decide +kernel
theorem dJ0_init_db425_85 : decode cJ0_init_db425 85 = .ok (.aload_n 3, 1) := by decide +kernel
theorem dJ0_init_db425_86 : decode cJ0_init_db425 86 = .ok (.iconst 0, 1) := by decide +kernel
theorem dJ0_init_db425_87 : decode cJ0_init_db425 87 = .ok (.iload 4, 2) := by decide +kernel
theorem dJ0_init_db425_89 : decode cJ0_init_db425 89 = .ok (.iconst 1, 1) := by decide +kernel
theorem dJ0_init_db425_90 : decode cJ0_init_db425 90 = .ok (.ishl, 1) := by decide +kernel
theorem dJ0_init_db425_91 : decode cJ0_init_db425 91 = .ok (.invokestatic 54, 3) := by decide +kernel
theorem dJ0_init_db425_94 : decode cJ0_init_db425 94 = .ok (.putfield 9, 3) := by decide +kernel
theorem dJ0_init_db425_97 : decode cJ0_init_db425 97 = .ok (.return_, 1) := by decide +kernel
theorem dJ0_init_81219_0 : decode cJ0_init_81219 0 = .ok (.aload_n 0, 1) := by decide +kernel
theorem dJ0_init_81219_1 : decode cJ0_init_81219 1 = .ok (.aload_n 1, 1) := by decide +kernel
theorem dJ0_init_81219_2 : decode cJ0_init_81219 2 = .ok (.aconst_null, 1) := by decide +kernel
theorem dJ0_init_81219_3 : decode cJ0_init_81219 3 = .ok (.invokespecial 489, 3) := by decide +kernel
theorem dJ0_init_81219_6 : decode cJ0_init_81219 6 = .ok (.return_, 1) := by decide +kernel
theorem dJ4_toString_0e30d_0 : decode cJ4_toString_0e30d 0 = .ok (.new 18, 3) := by decide +kernel
theorem dJ4_toString_0e30d_3 : decode cJ4_toString_0e30d 3 = .ok (.dup, 1) := by decide +kernel
theorem dJ4_toString_0e30d_4 : decode cJ4_toString_0e30d 4 = .ok (.aload_n 0, 1) := by decide +kernel
theorem dJ4_toString_0e30d_5 : decode cJ4_toString_0e30d 5 = .ok (.invokespecial 137, 3) := by decide +kernel
theorem dJ4_toString_0e30d_8 : decode cJ4_toString_0e30d 8 = .ok (.areturn, 1) := by decide +kernel
theorem dX3_wordText_0 : decode cX3_wordText 0 = .ok (.new 160, 3) := by decide +kernel
theorem dX3_wordText_3 : decode cX3_wordText 3 = .ok (.dup, 1) := by decide +kernel
theorem dX3_wordText_4 : decode cX3_wordText 4 = .ok (.invokespecial 162, 3) := by decide +kernel
theorem dX3_wordText_7 : decode cX3_wordText 7 = .ok (.astore_n 1, 1) := by decide +kernel
theorem dX3_wordText_8 : decode cX3_wordText 8 = .ok (.aload_n 0, 1) := by decide +kernel
theorem dX3_wordText_9 : decode cX3_wordText 9 = .ok (.getfield 100, 3) := by decide +kernel
theorem dX3_wordText_12 : decode cX3_wordText 12 = .ok (.istore_n 2, 1) := by decide +kernel
theorem dX3_wordText_13 : decode cX3_wordText 13 = .ok (.iload_n 2, 1) := by decide +kernel
theorem dX3_wordText_14 : decode cX3_wordText 14 = .ok (.aload_n 0, 1) := by decide +kernel
theorem dX3_wordText_15 : decode cX3_wordText 15 = .ok (.getfield 103, 3) := by decide +kernel
theorem dX3_wordText_18 : decode cX3_wordText 18 = .ok (.if_icmp .ge 24, 3) := by decide +kernel
theorem dX3_wordText_21 : decode cX3_wordText 21 = .ok (.aload_n 1, 1) := by decide +kernel
theorem dX3_wordText_22 : decode cX3_wordText 22 = .ok (.aload_n 0, 1) := by decide +kernel
theorem dX3_wordText_23 : decode cX3_wordText 23 = .ok (.getfield 9, 3) := by decide +kernel
theorem dX3_wordText_26 : decode cX3_wordText 26 = .ok (.getfield 163, 3) := by decide +kernel
theorem dX3_wordText_29 : decode cX3_wordText 29 = .ok (.iload_n 2, 1) := by decide +kernel
theorem dX3_wordText_30 : decode cX3_wordText 30 = .ok (.baload, 1) := by decide +kernel
theorem dX3_wordText_31 : decode cX3_wordText 31 = .ok (.i2c, 1) := by decide +kernel
theorem dX3_wordText_32 : decode cX3_wordText 32 = .ok (.invokevirtual 167, 3) := by decide +kernel
theorem dX3_wordText_35 : decode cX3_wordText 35 = .ok (.pop, 1) := by decide +kernel
theorem dX3_wordText_36 : decode cX3_wordText 36 = .ok (.iinc 2 1, 3) := by decide +kernel
theorem dX3_wordText_39 : decode cX3_wordText 39 = .ok (.goto (-26), 3) := by decide +kernel
theorem dX3_wordText_42 : decode cX3_wordText 42 = .ok (.aload_n 1, 1) := by decide +kernel
theorem dX3_wordText_43 : decode cX3_wordText 43 = .ok (.invokevirtual 171, 3) := by decide +kernel
theorem dX3_wordText_46 : decode cX3_wordText 46 = .ok (.areturn, 1) := by decide +kernel
theorem dJ7_fill_53178_0 : decode cJ7_fill_53178 0 = .ok (.iconst 0, 1) := by decide +kernel
theorem dJ7_fill_53178_1 : decode cJ7_fill_53178 1 = .ok (.istore_n 2, 1) := by decide +kernel
theorem dJ7_fill_53178_2 : decode cJ7_fill_53178 2 = .ok (.aload_n 0, 1) := by decide +kernel
theorem dJ7_fill_53178_3 : decode cJ7_fill_53178 3 = .ok (.arraylength, 1) := by decide +kernel
theorem dJ7_fill_53178_4 : decode cJ7_fill_53178 4 = .ok (.istore_n 3, 1) := by decide +kernel
theorem dJ7_fill_53178_5 : decode cJ7_fill_53178 5 = .ok (.iload_n 2, 1) := by decide +kernel
theorem dJ7_fill_53178_6 : decode cJ7_fill_53178 6 = .ok (.iload_n 3, 1) := by decide +kernel
theorem dJ7_fill_53178_7 : decode cJ7_fill_53178 7 = .ok (.if_icmp .ge 13, 3) := by decide +kernel
theorem dJ7_fill_53178_10 : decode cJ7_fill_53178 10 = .ok (.aload_n 0, 1) := by decide +kernel
theorem dJ7_fill_53178_11 : decode cJ7_fill_53178 11 = .ok (.iload_n 2, 1) := by decide +kernel
theorem dJ7_fill_53178_12 : decode cJ7_fill_53178 12 = .ok (.iload_n 1, 1) := by decide +kernel
theorem dJ7_fill_53178_13 : decode cJ7_fill_53178 13 = .ok (.iastore, 1) := by decide +kernel
theorem dJ7_fill_53178_14 : decode cJ7_fill_53178 14 = .ok (.iinc 2 1, 3) := by decide +kernel
theorem dJ7_fill_53178_17 : decode cJ7_fill_53178 17 = .ok (.goto (-12), 3) := by decide +kernel
theorem dJ7_fill_53178_20 : decode cJ7_fill_53178 20 = .ok (.return_, 1) := by decide +kernel
theorem dX7_begin_0 : decode cX7_begin 0 = .ok (.aload_n 0, 1) := by decide +kernel
theorem dX7_begin_1 : decode cX7_begin 1 = .ok (.aload_n 1, 1) := by decide +kernel
theorem dX7_begin_2 : decode cX7_begin 2 = .ok (.putfield 30, 3) := by decide +kernel
theorem dX7_begin_5 : decode cX7_begin 5 = .ok (.aload_n 0, 1) := by decide +kernel
theorem dX7_begin_6 : decode cX7_begin 6 = .ok (.iconst 0, 1) := by decide +kernel
theorem dX7_begin_7 : decode cX7_begin 7 = .ok (.putfield 34, 3) := by decide +kernel
theorem dX7_begin_10 : decode cX7_begin 10 = .ok (.aload_n 0, 1) := by decide +kernel
theorem dX7_begin_11 : decode cX7_begin 11 = .ok (.iconst 0, 1) := by decide +kernel
theorem dX7_begin_12 : decode cX7_begin 12 = .ok (.putfield 38, 3) := by decide +kernel
theorem dX7_begin_15 : decode cX7_begin 15 = .ok (.aload_n 0, 1) := by decide +kernel
theorem dX7_begin_16 : decode cX7_begin 16 = .ok (.getfield 9, 3) := by decide +kernel
theorem dX7_begin_19 : decode cX7_begin 19 = .ok (.iconst 0, 1) := by decide +kernel
theorem dX7_begin_20 : decode cX7_begin 20 = .ok (.invokestatic 41, 3) := by decide +kernel
theorem dX7_begin_23 : decode cX7_begin 23 = .ok (.aload_n 0, 1) := by decide +kernel
theorem dX7_begin_24 : decode cX7_begin 24 = .ok (.getfield 15, 3) := by decide +kernel
theorem dX7_begin_27 : decode cX7_begin 27 = .ok (.iconst 0, 1) := by decide +kernel
theorem dX7_begin_28 : decode cX7_begin 28 = .ok (.invokestatic 41, 3) := by decide +kernel
theorem dX7_begin_31 : decode cX7_begin 31 = .ok (.aload_n 0, 1) := by decide +kernel
theorem dX7_begin_32 : decode cX7_begin 32 = .ok (.getfield 24, 3) := by decide +kernel
theorem dX7_begin_35 : decode cX7_begin 35 = .ok (.invokevirtual 47, 3) := by decide +kernel
theorem dX7_begin_38 : decode cX7_begin 38 = .ok (.return_, 1) := by decide +kernel
theorem dX5_beginSet_0 : decode cX5_beginSet 0 = .ok (.aload_n 0, 1) := by decide +kernel
theorem dX5_beginSet_1 : decode cX5_beginSet 1 = .ok (.getfield 36, 3) := by decide +kernel
theorem dX5_beginSet_4 : decode cX5_beginSet 4 = .ok (.iconst 5, 1) := by decide +kernel
theorem dX5_beginSet_5 : decode cX5_beginSet 5 = .ok (.if_icmp .ge 26, 3) := by decide +kernel
theorem dX5_beginSet_8 : decode cX5_beginSet 8 = .ok (.aload_n 0, 1) := by decide +kernel
theorem dX5_beginSet_9 : decode cX5_beginSet 9 = .ok (.getfield 11, 3) := by decide +kernel
theorem dX5_beginSet_12 : decode cX5_beginSet 12 = .ok (.aload_n 0, 1) := by decide +kernel
theorem dX5_beginSet_13 : decode cX5_beginSet 13 = .ok (.getfield 36, 3) := by decide +kernel
theorem dX5_beginSet_16 : decode cX5_beginSet 16 = .ok (.aaload, 1) := by decide +kernel
theorem dX5_beginSet_17 : decode cX5_beginSet 17 = .ok (.aload_n 1, 1) := by decide +kernel
theorem dX5_beginSet_18 : decode cX5_beginSet 18 = .ok (.invokevirtual 55, 3) := by decide +kernel
theorem dX5_beginSet_21 : decode cX5_beginSet 21 = .ok (.aload_n 0, 1) := by decide +kernel
theorem dX5_beginSet_22 : decode cX5_beginSet 22 = .ok (.dup, 1) := by decide +kernel
theorem dX5_beginSet_23 : decode cX5_beginSet 23 = .ok (.getfield 36, 3) := by decide +kernel
theorem dX5_beginSet_26 : decode cX5_beginSet 26 = .ok (.iconst 1, 1) := by decide +kernel
theorem dX5_beginSet_27 : decode cX5_beginSet 27 = .ok (.iadd, 1) := by decide +kernel
theorem dX5_beginSet_28 : decode cX5_beginSet 28 = .ok (.putfield 36, 3) := by decide +kernel
theorem dX5_beginSet_31 : decode cX5_beginSet 31 = .ok (.return_, 1) := by decide +kernel
theorem dX3_readSet_0 : decode cX3_readSet 0 = .ok (.aload_n 0, 1) := by decide +kernel
theorem dX3_readSet_1 : decode cX3_readSet 1 = .ok (.getfield 19, 3) := by decide +kernel
theorem dX3_readSet_4 : decode cX3_readSet 4 = .ok (.getfield 94, 3) := by decide +kernel
theorem dX3_readSet_7 : decode cX3_readSet 7 = .ok (.iconst 5, 1) := by decide +kernel
theorem dX3_readSet_8 : decode cX3_readSet 8 = .ok (.if_icmp .lt 9, 3) := by decide +kernel
theorem dX3_readSet_11 : decode cX3_readSet 11 = .ok (.aload_n 0, 1) := by decide +kernel
theorem dX3_readSet_12 : decode cX3_readSet 12 = .ok (.iconst 5, 1) := by decide +kernel
theorem dX3_readSet_13 : decode cX3_readSet 13 = .ok (.invokevirtual 90, 3) := by decide +kernel
theorem dX3_readSet_16 : decode cX3_readSet 16 = .ok (.ireturn, 1) := by decide +kernel
theorem dX3_readSet_17 : decode cX3_readSet 17 = .ok (.aload_n 0, 1) := by decide +kernel
theorem dX3_readSet_18 : decode cX3_readSet 18 = .ok (.invokevirtual 35, 3) := by decide +kernel
theorem dX3_readSet_21 : decode cX3_readSet 21 = .ok (.aload_n 0, 1) := by decide +kernel
theorem dX3_readSet_22 : decode cX3_readSet 22 = .ok (.getfield 29, 3) := by decide +kernel
theorem dX3_readSet_25 : decode cX3_readSet 25 = .ok (.getstatic 97, 3) := by decide +kernel
theorem dX3_readSet_28 : decode cX3_readSet 28 = .ok (.if_acmp .eq 9, 3) := by decide +kernel
theorem dX3_readSet_31 : decode cX3_readSet 31 = .ok (.aload_n 0, 1) := by decide +kernel
theorem dX3_readSet_32 : decode cX3_readSet 32 = .ok (.iconst 1, 1) := by decide +kernel
theorem dX3_readSet_33 : decode cX3_readSet 33 = .ok (.invokevirtual 90, 3) := by decide +kernel
theorem dX3_readSet_36 : decode cX3_readSet 36 = .ok (.ireturn, 1) := by decide +kernel
theorem dX3_readSet_37 : decode cX3_readSet 37 = .ok (.aload_n 0, 1) := by decide +kernel
theorem dX3_readSet_38 : decode cX3_readSet 38 = .ok (.getfield 19, 3) := by decide +kernel
theorem dX3_readSet_41 : decode cX3_readSet 41 = .ok (.aload_n 0, 1) := by decide +kernel
theorem dX3_readSet_42 : decode cX3_readSet 42 = .ok (.getfield 9, 3) := by decide +kernel
theorem dX3_readSet_45 : decode cX3_readSet 45 = .ok (.aload_n 0, 1) := by decide +kernel
theorem dX3_readSet_46 : decode cX3_readSet 46 = .ok (.getfield 100, 3) := by decide +kernel
theorem dX3_readSet_49 : decode cX3_readSet 49 = .ok (.aload_n 0, 1) := by decide +kernel
theorem dX3_readSet_50 : decode cX3_readSet 50 = .ok (.getfield 103, 3) := by decide +kernel
theorem dX3_readSet_53 : decode cX3_readSet 53 = .ok (.invokevirtual 106, 3) := by decide +kernel
theorem dX3_readSet_56 : decode cX3_readSet 56 = .ok (.iconst (-1), 1) := by decide +kernel
theorem dX3_readSet_57 : decode cX3_readSet 57 = .ok (.if_icmp .eq 9, 3) := by decide +kernel
theorem dX3_readSet_60 : decode cX3_readSet 60 = .ok (.aload_n 0, 1) := by decide +kernel
theorem dX3_readSet_61 : decode cX3_readSet 61 = .ok (.iconst 2, 1) := by decide +kernel
theorem dX3_readSet_62 : decode cX3_readSet 62 = .ok (.invokevirtual 90, 3) := by decide +kernel
theorem dX3_readSet_65 : decode cX3_readSet 65 = .ok (.ireturn, 1) := by decide +kernel
theorem dX3_readSet_66 : decode cX3_readSet 66 = .ok (.aload_n 0, 1) := by decide +kernel
theorem dX3_readSet_67 : decode cX3_readSet 67 = .ok (.getfield 19, 3) := by decide +kernel
theorem dX3_readSet_70 : decode cX3_readSet 70 = .ok (.aload_n 0, 1) := by decide +kernel
theorem dX3_readSet_71 : decode cX3_readSet 71 = .ok (.invokevirtual 110, 3) := by decide +kernel
theorem dX3_readSet_74 : decode cX3_readSet 74 = .ok (.invokevirtual 114, 3) := by decide +kernel
theorem dX3_readSet_77 : decode cX3_readSet 77 = .ok (.aload_n 0, 1) := by decide +kernel
theorem dX3_readSet_78 : decode cX3_readSet 78 = .ok (.invokevirtual 35, 3) := by decide +kernel
theorem dX3_readSet_81 : decode cX3_readSet 81 = .ok (.iconst 1, 1) := by decide +kernel
theorem dX3_readSet_82 : decode cX3_readSet 82 = .ok (.ireturn, 1) := by decide +kernel
theorem dX3_readEarlierSet_0 : decode cX3_readEarlierSet 0 = .ok (.aload_n 0, 1) := by decide +kernel
theorem dX3_readEarlierSet_1 : decode cX3_readEarlierSet 1 = .ok (.getfield 29, 3) := by decide +kernel
theorem dX3_readEarlierSet_4 : decode cX3_readEarlierSet 4 = .ok (.getstatic 97, 3) := by decide +kernel
theorem dX3_readEarlierSet_7 : decode cX3_readEarlierSet 7 = .ok (.if_acmp .eq 11, 3) := by decide +kernel
theorem dX3_readEarlierSet_10 : decode cX3_readEarlierSet 10 = .ok (.aload_n 0, 1) := by decide +kernel
theorem dX3_readEarlierSet_11 : decode cX3_readEarlierSet 11 = .ok (.iconst 1, 1) := by decide +kernel
theorem dX3_readEarlierSet_12 : decode cX3_readEarlierSet 12 = .ok (.invokevirtual 90, 3) := by decide +kernel
theorem dX3_readEarlierSet_15 : decode cX3_readEarlierSet 15 = .ok (.pop, 1) := by decide +kernel
theorem dX3_readEarlierSet_16 : decode cX3_readEarlierSet 16 = .ok (.iconst (-1), 1) := by decide +kernel
theorem dX3_readEarlierSet_17 : decode cX3_readEarlierSet 17 = .ok (.ireturn, 1) := by decide +kernel
theorem dX3_readEarlierSet_18 : decode cX3_readEarlierSet 18 = .ok (.aload_n 0, 1) := by decide +kernel
theorem dX3_readEarlierSet_19 : decode cX3_readEarlierSet 19 = .ok (.getfield 19, 3) := by decide +kernel
theorem dX3_readEarlierSet_22 : decode cX3_readEarlierSet 22 = .ok (.aload_n 0, 1) := by decide +kernel
theorem dX3_readEarlierSet_23 : decode cX3_readEarlierSet 23 = .ok (.getfield 9, 3) := by decide +kernel
theorem dX3_readEarlierSet_26 : decode cX3_readEarlierSet 26 = .ok (.aload_n 0, 1) := by decide +kernel
theorem dX3_readEarlierSet_27 : decode cX3_readEarlierSet 27 = .ok (.getfield 100, 3) := by decide +kernel
theorem dX3_readEarlierSet_30 : decode cX3_readEarlierSet 30 = .ok (.aload_n 0, 1) := by decide +kernel
theorem dX3_readEarlierSet_31 : decode cX3_readEarlierSet 31 = .ok (.getfield 103, 3) := by decide +kernel
theorem dX3_readEarlierSet_34 : decode cX3_readEarlierSet 34 = .ok (.invokevirtual 106, 3) := by decide +kernel
theorem dX3_readEarlierSet_37 : decode cX3_readEarlierSet 37 = .ok (.istore_n 1, 1) := by decide +kernel
theorem dX3_readEarlierSet_38 : decode cX3_readEarlierSet 38 = .ok (.iload_n 1, 1) := by decide +kernel
theorem dX3_readEarlierSet_39 : decode cX3_readEarlierSet 39 = .ok (.iconst (-1), 1) := by decide +kernel
theorem dX3_readEarlierSet_40 : decode cX3_readEarlierSet 40 = .ok (.if_icmp .ne 9, 3) := by decide +kernel
theorem dX3_readEarlierSet_43 : decode cX3_readEarlierSet 43 = .ok (.aload_n 0, 1) := by decide +kernel
theorem dX3_readEarlierSet_44 : decode cX3_readEarlierSet 44 = .ok (.iconst 4, 1) := by decide +kernel
theorem dX3_readEarlierSet_45 : decode cX3_readEarlierSet 45 = .ok (.invokevirtual 90, 3) := by decide +kernel
theorem dX3_readEarlierSet_48 : decode cX3_readEarlierSet 48 = .ok (.pop, 1) := by decide +kernel
theorem dX3_readEarlierSet_49 : decode cX3_readEarlierSet 49 = .ok (.iload_n 1, 1) := by decide +kernel
theorem dX3_readEarlierSet_50 : decode cX3_readEarlierSet 50 = .ok (.ireturn, 1) := by decide +kernel
theorem dX7_placeOf_0 : decode cX7_placeOf 0 = .ok (.iload_n 1, 1) := by decide +kernel
theorem dX7_placeOf_1 : decode cX7_placeOf 1 = .ok (.ifCond .lt 9, 3) := by decide +kernel
theorem dX7_placeOf_4 : decode cX7_placeOf 4 = .ok (.iload_n 1, 1) := by decide +kernel
theorem dX7_placeOf_5 : decode cX7_placeOf 5 = .ok (.bipush 64, 2) := by decide +kernel
theorem dX7_placeOf_7 : decode cX7_placeOf 7 = .ok (.if_icmp .lt 5, 3) := by decide +kernel
theorem dX7_placeOf_10 : decode cX7_placeOf 10 = .ok (.iconst (-1), 1) := by decide +kernel
theorem dX7_placeOf_11 : decode cX7_placeOf 11 = .ok (.ireturn, 1) := by decide +kernel
theorem dX7_placeOf_12 : decode cX7_placeOf 12 = .ok (.aload_n 0, 1) := by decide +kernel
theorem dX7_placeOf_13 : decode cX7_placeOf 13 = .ok (.getfield 15, 3) := by decide +kernel
theorem dX7_placeOf_16 : decode cX7_placeOf 16 = .ok (.iload_n 1, 1) := by decide +kernel
theorem dX7_placeOf_17 : decode cX7_placeOf 17 = .ok (.iaload, 1) := by decide +kernel
theorem dX7_placeOf_18 : decode cX7_placeOf 18 = .ok (.istore_n 2, 1) := by decide +kernel
theorem dX7_placeOf_19 : decode cX7_placeOf 19 = .ok (.iload_n 2, 1) := by decide +kernel
theorem dX7_placeOf_20 : decode cX7_placeOf 20 = .ok (.aload_n 0, 1) := by decide +kernel
theorem dX7_placeOf_21 : decode cX7_placeOf 21 = .ok (.getfield 34, 3) := by decide +kernel
theorem dX7_placeOf_24 : decode cX7_placeOf 24 = .ok (.if_icmp .ge 17, 3) := by decide +kernel
theorem dX7_placeOf_27 : decode cX7_placeOf 27 = .ok (.aload_n 0, 1) := by decide +kernel
theorem dX7_placeOf_28 : decode cX7_placeOf 28 = .ok (.getfield 9, 3) := by decide +kernel
theorem dX7_placeOf_31 : decode cX7_placeOf 31 = .ok (.iload_n 2, 1) := by decide +kernel
theorem dX7_placeOf_32 : decode cX7_placeOf 32 = .ok (.iaload, 1) := by decide +kernel
theorem dX7_placeOf_33 : decode cX7_placeOf 33 = .ok (.iload_n 1, 1) := by decide +kernel
theorem dX7_placeOf_34 : decode cX7_placeOf 34 = .ok (.if_icmp .ne 7, 3) := by decide +kernel
theorem dX7_placeOf_37 : decode cX7_placeOf 37 = .ok (.iload_n 2, 1) := by decide +kernel
theorem dX7_placeOf_38 : decode cX7_placeOf 38 = .ok (.goto 4, 3) := by decide +kernel
theorem dX7_placeOf_41 : decode cX7_placeOf 41 = .ok (.iconst (-1), 1) := by decide +kernel
theorem dX7_placeOf_42 : decode cX7_placeOf 42 = .ok (.ireturn, 1) := by decide +kernel
theorem dX7_has_0 : decode cX7_has 0 = .ok (.aload_n 0, 1) := by decide +kernel
theorem dX7_has_1 : decode cX7_has 1 = .ok (.iload_n 1, 1) := by decide +kernel
theorem dX7_has_2 : decode cX7_has 2 = .ok (.invokevirtual 60, 3) := by decide +kernel
theorem dX7_has_5 : decode cX7_has 5 = .ok (.iconst (-1), 1) := by decide +kernel
theorem dX7_has_6 : decode cX7_has 6 = .ok (.if_icmp .eq 7, 3) := by decide +kernel
theorem dX7_has_9 : decode cX7_has 9 = .ok (.iconst 1, 1) := by decide +kernel
theorem dX7_has_10 : decode cX7_has 10 = .ok (.goto 4, 3) := by decide +kernel
theorem dX7_has_13 : decode cX7_has 13 = .ok (.iconst 0, 1) := by decide +kernel
theorem dX7_has_14 : decode cX7_has 14 = .ok (.ireturn, 1) := by decide +kernel
theorem dX5_writeMember_0 : decode cX5_writeMember 0 = .ok (.aload_n 1, 1) := by decide +kernel
theorem dX5_writeMember_1 : decode cX5_writeMember 1 = .ok (.getfield 123, 3) := by decide +kernel
theorem dX5_writeMember_4 : decode cX5_writeMember 4 = .ok (.iload_n 2, 1) := by decide +kernel
theorem dX5_writeMember_5 : decode cX5_writeMember 5 = .ok (.iload_n 3, 1) := by decide +kernel
theorem dX5_writeMember_6 : decode cX5_writeMember 6 = .ok (.iastore, 1) := by decide +kernel
theorem dX5_writeMember_7 : decode cX5_writeMember 7 = .ok (.aload_n 1, 1) := by decide +kernel
theorem dX5_writeMember_8 : decode cX5_writeMember 8 = .ok (.getfield 126, 3) := by decide +kernel
theorem dX5_writeMember_11 : decode cX5_writeMember 11 = .ok (.iload_n 3, 1) := by decide +kernel
theorem dX5_writeMember_12 : decode cX5_writeMember 12 = .ok (.iload_n 2, 1) := by decide +kernel
theorem dX5_writeMember_13 : decode cX5_writeMember 13 = .ok (.iastore, 1) := by decide +kernel
theorem dX5_writeMember_14 : decode cX5_writeMember 14 = .ok (.aload_n 0, 1) := by decide +kernel
theorem dX5_writeMember_15 : decode cX5_writeMember 15 = .ok (.dup, 1) := by decide +kernel
theorem dX5_writeMember_16 : decode cX5_writeMember 16 = .ok (.getfield 45, 3) := by decide +kernel
theorem dX5_writeMember_19 : decode cX5_writeMember 19 = .ok (.iconst 2, 1) := by decide +kernel
theorem dX5_writeMember_20 : decode cX5_writeMember 20 = .ok (.iadd, 1) := by decide +kernel
theorem dX5_writeMember_21 : decode cX5_writeMember 21 = .ok (.putfield 45, 3) := by decide +kernel
theorem dX5_writeMember_24 : decode cX5_writeMember 24 = .ok (.return_, 1) := by decide +kernel
theorem dX5_bringIn_0 : decode cX5_bringIn 0 = .ok (.aload_n 1, 1) := by decide +kernel
theorem dX5_bringIn_1 : decode cX5_bringIn 1 = .ok (.iload_n 2, 1) := by decide +kernel
theorem dX5_bringIn_2 : decode cX5_bringIn 2 = .ok (.invokevirtual 82, 3) := by decide +kernel
theorem dX5_bringIn_5 : decode cX5_bringIn 5 = .ok (.ifCond .eq 5, 3) := by decide +kernel
theorem dX5_bringIn_8 : decode cX5_bringIn 8 = .ok (.iconst 0, 1) := by decide +kernel
theorem dX5_bringIn_9 : decode cX5_bringIn 9 = .ok (.ireturn, 1) := by decide +kernel
theorem dX5_bringIn_10 : decode cX5_bringIn 10 = .ok (.aload_n 0, 1) := by decide +kernel
theorem dX5_bringIn_11 : decode cX5_bringIn 11 = .ok (.aload_n 1, 1) := by decide +kernel
theorem dX5_bringIn_12 : decode cX5_bringIn 12 = .ok (.aload_n 1, 1) := by decide +kernel
theorem dX5_bringIn_13 : decode cX5_bringIn 13 = .ok (.getfield 86, 3) := by decide +kernel
theorem dX5_bringIn_16 : decode cX5_bringIn 16 = .ok (.iload_n 2, 1) := by decide +kernel
theorem dX5_bringIn_17 : decode cX5_bringIn 17 = .ok (.invokevirtual 89, 3) := by decide +kernel
theorem dX5_bringIn_20 : decode cX5_bringIn 20 = .ok (.aload_n 1, 1) := by decide +kernel
theorem dX5_bringIn_21 : decode cX5_bringIn 21 = .ok (.dup, 1) := by decide +kernel
theorem dX5_bringIn_22 : decode cX5_bringIn 22 = .ok (.getfield 86, 3) := by decide +kernel
theorem dX5_bringIn_25 : decode cX5_bringIn 25 = .ok (.iconst 1, 1) := by decide +kernel
theorem dX5_bringIn_26 : decode cX5_bringIn 26 = .ok (.iadd, 1) := by decide +kernel
theorem dX5_bringIn_27 : decode cX5_bringIn 27 = .ok (.putfield 86, 3) := by decide +kernel
theorem dX5_bringIn_30 : decode cX5_bringIn 30 = .ok (.aload_n 0, 1) := by decide +kernel
theorem dX5_bringIn_31 : decode cX5_bringIn 31 = .ok (.dup, 1) := by decide +kernel
theorem dX5_bringIn_32 : decode cX5_bringIn 32 = .ok (.getfield 42, 3) := by decide +kernel
theorem dX5_bringIn_35 : decode cX5_bringIn 35 = .ok (.iconst 1, 1) := by decide +kernel
theorem dX5_bringIn_36 : decode cX5_bringIn 36 = .ok (.iadd, 1) := by decide +kernel
theorem dX5_bringIn_37 : decode cX5_bringIn 37 = .ok (.putfield 42, 3) := by decide +kernel
theorem dX5_bringIn_40 : decode cX5_bringIn 40 = .ok (.aload_n 1, 1) := by decide +kernel
theorem dX5_bringIn_41 : decode cX5_bringIn 41 = .ok (.getfield 93, 3) := by decide +kernel
theorem dX5_bringIn_44 : decode cX5_bringIn 44 = .ok (.iload_n 2, 1) := by decide +kernel
theorem dX5_bringIn_45 : decode cX5_bringIn 45 = .ok (.aload_n 0, 1) := by decide +kernel
theorem dX5_bringIn_46 : decode cX5_bringIn 46 = .ok (.getfield 42, 3) := by decide +kernel
theorem dX5_bringIn_49 : decode cX5_bringIn 49 = .ok (.iastore, 1) := by decide +kernel
theorem dX5_bringIn_50 : decode cX5_bringIn 50 = .ok (.aload_n 1, 1) := by decide +kernel
theorem dX5_bringIn_51 : decode cX5_bringIn 51 = .ok (.getfield 96, 3) := by decide +kernel
theorem dX5_bringIn_54 : decode cX5_bringIn 54 = .ok (.aload_n 0, 1) := by decide +kernel
theorem dX5_bringIn_55 : decode cX5_bringIn 55 = .ok (.getfield 42, 3) := by decide +kernel
theorem dX5_bringIn_58 : decode cX5_bringIn 58 = .ok (.iload_n 2, 1) := by decide +kernel
theorem dX5_bringIn_59 : decode cX5_bringIn 59 = .ok (.iconst 0, 1) := by decide +kernel
theorem dX5_bringIn_60 : decode cX5_bringIn 60 = .ok (.aload_n 0, 1) := by decide +kernel
theorem dX5_bringIn_61 : decode cX5_bringIn 61 = .ok (.getfield 33, 3) := by decide +kernel
theorem dX5_bringIn_64 : decode cX5_bringIn 64 = .ok (.invokevirtual 100, 3) := by decide +kernel
theorem dX5_bringIn_67 : decode cX5_bringIn 67 = .ok (.iconst 1, 1) := by decide +kernel
theorem dX5_bringIn_68 : decode cX5_bringIn 68 = .ok (.ireturn, 1) := by decide +kernel
theorem dX5_pullCursorsBack_0 : decode cX5_pullCursorsBack 0 = .ok (.iconst 0, 1) := by decide +kernel
theorem dX5_pullCursorsBack_1 : decode cX5_pullCursorsBack 1 = .ok (.istore_n 3, 1) := by decide +kernel
theorem dX5_pullCursorsBack_2 : decode cX5_pullCursorsBack 2 = .ok (.iconst 0, 1) := by decide +kernel
theorem dX5_pullCursorsBack_3 : decode cX5_pullCursorsBack 3 = .ok (.istore 4, 2) := by decide +kernel
theorem dX5_pullCursorsBack_5 : decode cX5_pullCursorsBack 5 = .ok (.iload 4, 2) := by decide +kernel
theorem dX5_pullCursorsBack_7 : decode cX5_pullCursorsBack 7 = .ok (.bipush 6, 2) := by decide +kernel
theorem dX5_pullCursorsBack_9 : decode cX5_pullCursorsBack 9 = .ok (.if_icmp .ge 52, 3) := by decide +kernel
theorem dX5_pullCursorsBack_12 : decode cX5_pullCursorsBack 12 = .ok (.aload_n 0, 1) := by decide +kernel
theorem dX5_pullCursorsBack_13 : decode cX5_pullCursorsBack 13 = .ok (.getfield 19, 3) := by decide +kernel
theorem dX5_pullCursorsBack_16 : decode cX5_pullCursorsBack 16 = .ok (.iload 4, 2) := by decide +kernel
theorem dX5_pullCursorsBack_18 : decode cX5_pullCursorsBack 18 = .ok (.aaload, 1) := by decide +kernel
theorem dX5_pullCursorsBack_19 : decode cX5_pullCursorsBack 19 = .ok (.iload_n 1, 1) := by decide +kernel
theorem dX5_pullCursorsBack_20 : decode cX5_pullCursorsBack 20 = .ok (.invokevirtual 117, 3) := by decide +kernel
theorem dX5_pullCursorsBack_23 : decode cX5_pullCursorsBack 23 = .ok (.ifCond .eq 32, 3) := by decide +kernel
theorem dX5_pullCursorsBack_26 : decode cX5_pullCursorsBack 26 = .ok (.aload_n 0, 1) := by decide +kernel
theorem dX5_pullCursorsBack_27 : decode cX5_pullCursorsBack 27 = .ok (.getfield 19, 3) := by decide +kernel
theorem dX5_pullCursorsBack_30 : decode cX5_pullCursorsBack 30 = .ok (.iload 4, 2) := by decide +kernel
theorem dX5_pullCursorsBack_32 : decode cX5_pullCursorsBack 32 = .ok (.aaload, 1) := by decide +kernel
theorem dX5_pullCursorsBack_33 : decode cX5_pullCursorsBack 33 = .ok (.getfield 120, 3) := by decide +kernel
theorem dX5_pullCursorsBack_36 : decode cX5_pullCursorsBack 36 = .ok (.iload_n 2, 1) := by decide +kernel
theorem dX5_pullCursorsBack_37 : decode cX5_pullCursorsBack 37 = .ok (.if_icmp .ne 18, 3) := by decide +kernel
theorem dX5_pullCursorsBack_40 : decode cX5_pullCursorsBack 40 = .ok (.aload_n 0, 1) := by decide +kernel
theorem dX5_pullCursorsBack_41 : decode cX5_pullCursorsBack 41 = .ok (.getfield 19, 3) := by decide +kernel
theorem dX5_pullCursorsBack_44 : decode cX5_pullCursorsBack 44 = .ok (.iload 4, 2) := by decide +kernel
theorem dX5_pullCursorsBack_46 : decode cX5_pullCursorsBack 46 = .ok (.aaload, 1) := by decide +kernel
theorem dX5_pullCursorsBack_47 : decode cX5_pullCursorsBack 47 = .ok (.iload_n 2, 1) := by decide +kernel
theorem dX5_pullCursorsBack_48 : decode cX5_pullCursorsBack 48 = .ok (.iconst 1, 1) := by decide +kernel
theorem dX5_pullCursorsBack_49 : decode cX5_pullCursorsBack 49 = .ok (.isub, 1) := by decide +kernel
theorem dX5_pullCursorsBack_50 : decode cX5_pullCursorsBack 50 = .ok (.putfield 120, 3) := by decide +kernel
theorem dX5_pullCursorsBack_53 : decode cX5_pullCursorsBack 53 = .ok (.iconst 1, 1) := by decide +kernel
theorem dX5_pullCursorsBack_54 : decode cX5_pullCursorsBack 54 = .ok (.istore_n 3, 1) := by decide +kernel
theorem dX5_pullCursorsBack_55 : decode cX5_pullCursorsBack 55 = .ok (.iinc 4 1, 3) := by decide +kernel
theorem dX5_pullCursorsBack_58 : decode cX5_pullCursorsBack 58 = .ok (.goto (-53), 3) := by decide +kernel
theorem dX5_pullCursorsBack_61 : decode cX5_pullCursorsBack 61 = .ok (.iload_n 3, 1) := by decide +kernel
theorem dX5_pullCursorsBack_62 : decode cX5_pullCursorsBack 62 = .ok (.ireturn, 1) := by decide +kernel
theorem dX5_moveMember_0 : decode cX5_moveMember 0 = .ok (.iload_n 2, 1) := by decide +kernel
theorem dX5_moveMember_1 : decode cX5_moveMember 1 = .ok (.iload_n 3, 1) := by decide +kernel
theorem dX5_moveMember_2 : decode cX5_moveMember 2 = .ok (.if_icmp .eq 15, 3) := by decide +kernel
theorem dX5_moveMember_5 : decode cX5_moveMember 5 = .ok (.aload_n 0, 1) := by decide +kernel
theorem dX5_moveMember_6 : decode cX5_moveMember 6 = .ok (.aload_n 1, 1) := by decide +kernel
theorem dX5_moveMember_7 : decode cX5_moveMember 7 = .ok (.iload_n 3, 1) := by decide +kernel
theorem dX5_moveMember_8 : decode cX5_moveMember 8 = .ok (.aload_n 1, 1) := by decide +kernel
theorem dX5_moveMember_9 : decode cX5_moveMember 9 = .ok (.getfield 123, 3) := by decide +kernel
theorem dX5_moveMember_12 : decode cX5_moveMember 12 = .ok (.iload_n 2, 1) := by decide +kernel
theorem dX5_moveMember_13 : decode cX5_moveMember 13 = .ok (.iaload, 1) := by decide +kernel
theorem dX5_moveMember_14 : decode cX5_moveMember 14 = .ok (.invokevirtual 89, 3) := by decide +kernel
theorem dX5_moveMember_17 : decode cX5_moveMember 17 = .ok (.return_, 1) := by decide +kernel
theorem dX5_takeOut_0 : decode cX5_takeOut 0 = .ok (.aload_n 0, 1) := by decide +kernel
theorem dX5_takeOut_1 : decode cX5_takeOut 1 = .ok (.getfield 11, 3) := by decide +kernel
theorem dX5_takeOut_4 : decode cX5_takeOut 4 = .ok (.iload_n 1, 1) := by decide +kernel
theorem dX5_takeOut_5 : decode cX5_takeOut 5 = .ok (.aaload, 1) := by decide +kernel
theorem dX5_takeOut_6 : decode cX5_takeOut 6 = .ok (.astore_n 3, 1) := by decide +kernel
theorem dX5_takeOut_7 : decode cX5_takeOut 7 = .ok (.aload_n 3, 1) := by decide +kernel
theorem dX5_takeOut_8 : decode cX5_takeOut 8 = .ok (.iload_n 2, 1) := by decide +kernel
theorem dX5_takeOut_9 : decode cX5_takeOut 9 = .ok (.invokevirtual 106, 3) := by decide +kernel
theorem dX5_takeOut_12 : decode cX5_takeOut 12 = .ok (.istore 4, 2) := by decide +kernel
theorem dX5_takeOut_14 : decode cX5_takeOut 14 = .ok (.iload 4, 2) := by decide +kernel
theorem dX5_takeOut_16 : decode cX5_takeOut 16 = .ok (.iconst (-1), 1) := by decide +kernel
theorem dX5_takeOut_17 : decode cX5_takeOut 17 = .ok (.if_icmp .ne 5, 3) := by decide +kernel
theorem dX5_takeOut_20 : decode cX5_takeOut 20 = .ok (.iconst 0, 1) := by decide +kernel
theorem dX5_takeOut_21 : decode cX5_takeOut 21 = .ok (.ireturn, 1) := by decide +kernel
theorem dX5_takeOut_22 : decode cX5_takeOut 22 = .ok (.iload 4, 2) := by decide +kernel
theorem dX5_takeOut_24 : decode cX5_takeOut 24 = .ok (.istore 5, 2) := by decide +kernel
theorem dX5_takeOut_26 : decode cX5_takeOut 26 = .ok (.iload 4, 2) := by decide +kernel
theorem dX5_takeOut_28 : decode cX5_takeOut 28 = .ok (.iconst 1, 1) := by decide +kernel
theorem dX5_takeOut_29 : decode cX5_takeOut 29 = .ok (.iadd, 1) := by decide +kernel
theorem dX5_takeOut_30 : decode cX5_takeOut 30 = .ok (.istore 6, 2) := by decide +kernel
theorem dX5_takeOut_32 : decode cX5_takeOut 32 = .ok (.iload 6, 2) := by decide +kernel
theorem dX5_takeOut_34 : decode cX5_takeOut 34 = .ok (.aload_n 3, 1) := by decide +kernel
theorem dX5_takeOut_35 : decode cX5_takeOut 35 = .ok (.getfield 86, 3) := by decide +kernel
theorem dX5_takeOut_38 : decode cX5_takeOut 38 = .ok (.if_icmp .gt 45, 3) := by decide +kernel
theorem dX5_takeOut_41 : decode cX5_takeOut 41 = .ok (.aload_n 0, 1) := by decide +kernel
theorem dX5_takeOut_42 : decode cX5_takeOut 42 = .ok (.iload_n 1, 1) := by decide +kernel
theorem dX5_takeOut_43 : decode cX5_takeOut 43 = .ok (.iload 6, 2) := by decide +kernel
theorem dX5_takeOut_45 : decode cX5_takeOut 45 = .ok (.invokevirtual 110, 3) := by decide +kernel
theorem dX5_takeOut_48 : decode cX5_takeOut 48 = .ok (.ifCond .ne 12, 3) := by decide +kernel
theorem dX5_takeOut_51 : decode cX5_takeOut 51 = .ok (.iload 6, 2) := by decide +kernel
theorem dX5_takeOut_53 : decode cX5_takeOut 53 = .ok (.aload_n 3, 1) := by decide +kernel
theorem dX5_takeOut_54 : decode cX5_takeOut 54 = .ok (.getfield 86, 3) := by decide +kernel
theorem dX5_takeOut_57 : decode cX5_takeOut 57 = .ok (.if_icmp .ne 20, 3) := by decide +kernel
theorem dX5_takeOut_60 : decode cX5_takeOut 60 = .ok (.aload_n 0, 1) := by decide +kernel
theorem dX5_takeOut_61 : decode cX5_takeOut 61 = .ok (.aload_n 3, 1) := by decide +kernel
theorem dX5_takeOut_62 : decode cX5_takeOut 62 = .ok (.iload 6, 2) := by decide +kernel
theorem dX5_takeOut_64 : decode cX5_takeOut 64 = .ok (.iconst 1, 1) := by decide +kernel
theorem dX5_takeOut_65 : decode cX5_takeOut 65 = .ok (.isub, 1) := by decide +kernel
theorem dX5_takeOut_66 : decode cX5_takeOut 66 = .ok (.iload 5, 2) := by decide +kernel
theorem dX5_takeOut_68 : decode cX5_takeOut 68 = .ok (.invokevirtual 114, 3) := by decide +kernel
theorem dX5_takeOut_71 : decode cX5_takeOut 71 = .ok (.iload 6, 2) := by decide +kernel
theorem dX5_takeOut_73 : decode cX5_takeOut 73 = .ok (.iconst 1, 1) := by decide +kernel
theorem dX5_takeOut_74 : decode cX5_takeOut 74 = .ok (.isub, 1) := by decide +kernel
theorem dX5_takeOut_75 : decode cX5_takeOut 75 = .ok (.istore 5, 2) := by decide +kernel
theorem dX5_takeOut_77 : decode cX5_takeOut 77 = .ok (.iinc 6 1, 3) := by decide +kernel
theorem dX5_takeOut_80 : decode cX5_takeOut 80 = .ok (.goto (-48), 3) := by decide +kernel
theorem dX5_takeOut_83 : decode cX5_takeOut 83 = .ok (.aload_n 3, 1) := by decide +kernel
theorem dX5_takeOut_84 : decode cX5_takeOut 84 = .ok (.dup, 1) := by decide +kernel
theorem dX5_takeOut_85 : decode cX5_takeOut 85 = .ok (.getfield 86, 3) := by decide +kernel
theorem dX5_takeOut_88 : decode cX5_takeOut 88 = .ok (.iconst 1, 1) := by decide +kernel
theorem dX5_takeOut_89 : decode cX5_takeOut 89 = .ok (.isub, 1) := by decide +kernel
theorem dX5_takeOut_90 : decode cX5_takeOut 90 = .ok (.putfield 86, 3) := by decide +kernel
theorem dX5_takeOut_93 : decode cX5_takeOut 93 = .ok (.aload_n 0, 1) := by decide +kernel
theorem dX5_takeOut_94 : decode cX5_takeOut 94 = .ok (.dup, 1) := by decide +kernel
theorem dX5_takeOut_95 : decode cX5_takeOut 95 = .ok (.getfield 42, 3) := by decide +kernel
theorem dX5_takeOut_98 : decode cX5_takeOut 98 = .ok (.iconst 1, 1) := by decide +kernel
theorem dX5_takeOut_99 : decode cX5_takeOut 99 = .ok (.iadd, 1) := by decide +kernel
theorem dX5_takeOut_100 : decode cX5_takeOut 100 = .ok (.putfield 42, 3) := by decide +kernel
theorem dX5_takeOut_103 : decode cX5_takeOut 103 = .ok (.aload_n 3, 1) := by decide +kernel
theorem dX5_takeOut_104 : decode cX5_takeOut 104 = .ok (.getfield 96, 3) := by decide +kernel
theorem dX5_takeOut_107 : decode cX5_takeOut 107 = .ok (.aload_n 0, 1) := by decide +kernel
theorem dX5_takeOut_108 : decode cX5_takeOut 108 = .ok (.getfield 42, 3) := by decide +kernel
theorem dX5_takeOut_111 : decode cX5_takeOut 111 = .ok (.iload_n 2, 1) := by decide +kernel
theorem dX5_takeOut_112 : decode cX5_takeOut 112 = .ok (.iconst 1, 1) := by decide +kernel
theorem dX5_takeOut_113 : decode cX5_takeOut 113 = .ok (.aload_n 0, 1) := by decide +kernel
theorem dX5_takeOut_114 : decode cX5_takeOut 114 = .ok (.getfield 33, 3) := by decide +kernel
theorem dX5_takeOut_117 : decode cX5_takeOut 117 = .ok (.invokevirtual 100, 3) := by decide +kernel
theorem dX5_takeOut_120 : decode cX5_takeOut 120 = .ok (.iconst 1, 1) := by decide +kernel
theorem dX5_takeOut_121 : decode cX5_takeOut 121 = .ok (.ireturn, 1) := by decide +kernel
theorem dX3_readMembers_0 : decode cX3_readMembers 0 = .ok (.aload_n 0, 1) := by decide +kernel
theorem dX3_readMembers_1 : decode cX3_readMembers 1 = .ok (.invokevirtual 35, 3) := by decide +kernel
theorem dX3_readMembers_4 : decode cX3_readMembers 4 = .ok (.aload_n 0, 1) := by decide +kernel
theorem dX3_readMembers_5 : decode cX3_readMembers 5 = .ok (.invokevirtual 118, 3) := by decide +kernel
theorem dX3_readMembers_8 : decode cX3_readMembers 8 = .ok (.istore_n 2, 1) := by decide +kernel
theorem dX3_readMembers_9 : decode cX3_readMembers 9 = .ok (.iload_n 2, 1) := by decide +kernel
theorem dX3_readMembers_10 : decode cX3_readMembers 10 = .ok (.iconst (-1), 1) := by decide +kernel
theorem dX3_readMembers_11 : decode cX3_readMembers 11 = .ok (.if_icmp .ne 5, 3) := by decide +kernel
theorem dX3_readMembers_14 : decode cX3_readMembers 14 = .ok (.iconst 0, 1) := by decide +kernel
theorem dX3_readMembers_15 : decode cX3_readMembers 15 = .ok (.ireturn, 1) := by decide +kernel
theorem dX3_readMembers_16 : decode cX3_readMembers 16 = .ok (.aload_n 0, 1) := by decide +kernel
theorem dX3_readMembers_17 : decode cX3_readMembers 17 = .ok (.invokevirtual 35, 3) := by decide +kernel
theorem dX3_readMembers_20 : decode cX3_readMembers 20 = .ok (.iconst 0, 1) := by decide +kernel
theorem dX3_readMembers_21 : decode cX3_readMembers 21 = .ok (.istore_n 3, 1) := by decide +kernel
theorem dX3_readMembers_22 : decode cX3_readMembers 22 = .ok (.iload_n 3, 1) := by decide +kernel
theorem dX3_readMembers_23 : decode cX3_readMembers 23 = .ok (.ifCond .eq 21, 3) := by decide +kernel
theorem dX3_readMembers_26 : decode cX3_readMembers 26 = .ok (.iload_n 3, 1) := by decide +kernel
theorem dX3_readMembers_27 : decode cX3_readMembers 27 = .ok (.aload_n 0, 1) := by decide +kernel
theorem dX3_readMembers_28 : decode cX3_readMembers 28 = .ok (.getfield 15, 3) := by decide +kernel
theorem dX3_readMembers_31 : decode cX3_readMembers 31 = .ok (.if_icmp .ge 83, 3) := by decide +kernel
theorem dX3_readMembers_34 : decode cX3_readMembers 34 = .ok (.aload_n 0, 1) := by decide +kernel
theorem dX3_readMembers_35 : decode cX3_readMembers 35 = .ok (.getfield 29, 3) := by decide +kernel
theorem dX3_readMembers_38 : decode cX3_readMembers 38 = .ok (.getstatic 122, 3) := by decide +kernel
theorem dX3_readMembers_41 : decode cX3_readMembers 41 = .ok (.if_acmp .ne 73, 3) := by decide +kernel
theorem dX3_readMembers_44 : decode cX3_readMembers 44 = .ok (.aload_n 0, 1) := by decide +kernel
theorem dX3_readMembers_45 : decode cX3_readMembers 45 = .ok (.iconst 0, 1) := by decide +kernel
theorem dX3_readMembers_46 : decode cX3_readMembers 46 = .ok (.aload_n 0, 1) := by decide +kernel
theorem dX3_readMembers_47 : decode cX3_readMembers 47 = .ok (.getfield 19, 3) := by decide +kernel
theorem dX3_readMembers_50 : decode cX3_readMembers 50 = .ok (.getfield 125, 3) := by decide +kernel
theorem dX3_readMembers_53 : decode cX3_readMembers 53 = .ok (.iconst 1, 1) := by decide +kernel
theorem dX3_readMembers_54 : decode cX3_readMembers 54 = .ok (.isub, 1) := by decide +kernel
theorem dX3_readMembers_55 : decode cX3_readMembers 55 = .ok (.invokevirtual 44, 3) := by decide +kernel
theorem dX3_readMembers_58 : decode cX3_readMembers 58 = .ok (.ifCond .ne 5, 3) := by decide +kernel
theorem dX3_readMembers_61 : decode cX3_readMembers 61 = .ok (.iconst 0, 1) := by decide +kernel
theorem dX3_readMembers_62 : decode cX3_readMembers 62 = .ok (.ireturn, 1) := by decide +kernel
theorem dX3_readMembers_63 : decode cX3_readMembers 63 = .ok (.iload_n 1, 1) := by decide +kernel
theorem dX3_readMembers_64 : decode cX3_readMembers 64 = .ok (.ifCond .eq 27, 3) := by decide +kernel
theorem dX3_readMembers_67 : decode cX3_readMembers 67 = .ok (.aload_n 0, 1) := by decide +kernel
theorem dX3_readMembers_68 : decode cX3_readMembers 68 = .ok (.getfield 19, 3) := by decide +kernel
theorem dX3_readMembers_71 : decode cX3_readMembers 71 = .ok (.aload_n 0, 1) := by decide +kernel
theorem dX3_readMembers_72 : decode cX3_readMembers 72 = .ok (.getfield 19, 3) := by decide +kernel
theorem dX3_readMembers_75 : decode cX3_readMembers 75 = .ok (.getfield 128, 3) := by decide +kernel
theorem dX3_readMembers_78 : decode cX3_readMembers 78 = .ok (.iload_n 2, 1) := by decide +kernel
theorem dX3_readMembers_79 : decode cX3_readMembers 79 = .ok (.aaload, 1) := by decide +kernel
theorem dX3_readMembers_80 : decode cX3_readMembers 80 = .ok (.aload_n 0, 1) := by decide +kernel
theorem dX3_readMembers_81 : decode cX3_readMembers 81 = .ok (.getfield 48, 3) := by decide +kernel
theorem dX3_readMembers_84 : decode cX3_readMembers 84 = .ok (.invokevirtual 131, 3) := by decide +kernel
theorem dX3_readMembers_87 : decode cX3_readMembers 87 = .ok (.pop, 1) := by decide +kernel
theorem dX3_readMembers_88 : decode cX3_readMembers 88 = .ok (.goto 16, 3) := by decide +kernel
theorem dX3_readMembers_91 : decode cX3_readMembers 91 = .ok (.aload_n 0, 1) := by decide +kernel
theorem dX3_readMembers_92 : decode cX3_readMembers 92 = .ok (.getfield 19, 3) := by decide +kernel
theorem dX3_readMembers_95 : decode cX3_readMembers 95 = .ok (.iload_n 2, 1) := by decide +kernel
theorem dX3_readMembers_96 : decode cX3_readMembers 96 = .ok (.aload_n 0, 1) := by decide +kernel
theorem dX3_readMembers_97 : decode cX3_readMembers 97 = .ok (.getfield 48, 3) := by decide +kernel
theorem dX3_readMembers_100 : decode cX3_readMembers 100 = .ok (.invokevirtual 135, 3) := by decide +kernel
theorem dX3_readMembers_103 : decode cX3_readMembers 103 = .ok (.pop, 1) := by decide +kernel
theorem dX3_readMembers_104 : decode cX3_readMembers 104 = .ok (.aload_n 0, 1) := by decide +kernel
theorem dX3_readMembers_105 : decode cX3_readMembers 105 = .ok (.invokevirtual 35, 3) := by decide +kernel
theorem dX3_readMembers_108 : decode cX3_readMembers 108 = .ok (.iinc 3 1, 3) := by decide +kernel
theorem dX3_readMembers_111 : decode cX3_readMembers 111 = .ok (.goto (-89), 3) := by decide +kernel
theorem dX3_readMembers_114 : decode cX3_readMembers 114 = .ok (.iconst 1, 1) := by decide +kernel
theorem dX3_readMembers_115 : decode cX3_readMembers 115 = .ok (.ireturn, 1) := by decide +kernel
theorem dX5_emptySet_0 : decode cX5_emptySet 0 = .ok (.aload_n 0, 1) := by decide +kernel
theorem dX5_emptySet_1 : decode cX5_emptySet 1 = .ok (.getfield 11, 3) := by decide +kernel
theorem dX5_emptySet_4 : decode cX5_emptySet 4 = .ok (.iload_n 1, 1) := by decide +kernel
theorem dX5_emptySet_5 : decode cX5_emptySet 5 = .ok (.aaload, 1) := by decide +kernel
theorem dX5_emptySet_6 : decode cX5_emptySet 6 = .ok (.astore_n 2, 1) := by decide +kernel
theorem dX5_emptySet_7 : decode cX5_emptySet 7 = .ok (.aload_n 2, 1) := by decide +kernel
theorem dX5_emptySet_8 : decode cX5_emptySet 8 = .ok (.getfield 86, 3) := by decide +kernel
theorem dX5_emptySet_11 : decode cX5_emptySet 11 = .ok (.ifCond .le 30, 3) := by decide +kernel
theorem dX5_emptySet_14 : decode cX5_emptySet 14 = .ok (.aload_n 0, 1) := by decide +kernel
theorem dX5_emptySet_15 : decode cX5_emptySet 15 = .ok (.dup, 1) := by decide +kernel
theorem dX5_emptySet_16 : decode cX5_emptySet 16 = .ok (.getfield 42, 3) := by decide +kernel
theorem dX5_emptySet_19 : decode cX5_emptySet 19 = .ok (.iconst 1, 1) := by decide +kernel
theorem dX5_emptySet_20 : decode cX5_emptySet 20 = .ok (.iadd, 1) := by decide +kernel
theorem dX5_emptySet_21 : decode cX5_emptySet 21 = .ok (.putfield 42, 3) := by decide +kernel
theorem dX5_emptySet_24 : decode cX5_emptySet 24 = .ok (.aload_n 2, 1) := by decide +kernel
theorem dX5_emptySet_25 : decode cX5_emptySet 25 = .ok (.getfield 96, 3) := by decide +kernel
theorem dX5_emptySet_28 : decode cX5_emptySet 28 = .ok (.aload_n 0, 1) := by decide +kernel
theorem dX5_emptySet_29 : decode cX5_emptySet 29 = .ok (.getfield 42, 3) := by decide +kernel
theorem dX5_emptySet_32 : decode cX5_emptySet 32 = .ok (.iconst (-1), 1) := by decide +kernel
theorem dX5_emptySet_33 : decode cX5_emptySet 33 = .ok (.iconst 2, 1) := by decide +kernel
theorem dX5_emptySet_34 : decode cX5_emptySet 34 = .ok (.aload_n 0, 1) := by decide +kernel
theorem dX5_emptySet_35 : decode cX5_emptySet 35 = .ok (.getfield 33, 3) := by decide +kernel
theorem dX5_emptySet_38 : decode cX5_emptySet 38 = .ok (.invokevirtual 100, 3) := by decide +kernel
theorem dX5_emptySet_41 : decode cX5_emptySet 41 = .ok (.aload_n 2, 1) := by decide +kernel
theorem dX5_emptySet_42 : decode cX5_emptySet 42 = .ok (.iconst 0, 1) := by decide +kernel
theorem dX5_emptySet_43 : decode cX5_emptySet 43 = .ok (.putfield 86, 3) := by decide +kernel
theorem dX5_emptySet_46 : decode cX5_emptySet 46 = .ok (.aload_n 2, 1) := by decide +kernel
theorem dX5_emptySet_47 : decode cX5_emptySet 47 = .ok (.dup, 1) := by decide +kernel
theorem dX5_emptySet_48 : decode cX5_emptySet 48 = .ok (.getfield 129, 3) := by decide +kernel
theorem dX5_emptySet_51 : decode cX5_emptySet 51 = .ok (.iconst 1, 1) := by decide +kernel
theorem dX5_emptySet_52 : decode cX5_emptySet 52 = .ok (.iadd, 1) := by decide +kernel
theorem dX5_emptySet_53 : decode cX5_emptySet 53 = .ok (.putfield 129, 3) := by decide +kernel
theorem dX5_emptySet_56 : decode cX5_emptySet 56 = .ok (.aload_n 0, 1) := by decide +kernel
theorem dX5_emptySet_57 : decode cX5_emptySet 57 = .ok (.dup, 1) := by decide +kernel
theorem dX5_emptySet_58 : decode cX5_emptySet 58 = .ok (.getfield 45, 3) := by decide +kernel
theorem dX5_emptySet_61 : decode cX5_emptySet 61 = .ok (.iconst 1, 1) := by decide +kernel
theorem dX5_emptySet_62 : decode cX5_emptySet 62 = .ok (.iadd, 1) := by decide +kernel
theorem dX5_emptySet_63 : decode cX5_emptySet 63 = .ok (.putfield 45, 3) := by decide +kernel
theorem dX5_emptySet_66 : decode cX5_emptySet 66 = .ok (.iconst 0, 1) := by decide +kernel
theorem dX5_emptySet_67 : decode cX5_emptySet 67 = .ok (.istore_n 3, 1) := by decide +kernel
theorem dX5_emptySet_68 : decode cX5_emptySet 68 = .ok (.iload_n 3, 1) := by decide +kernel
theorem dX5_emptySet_69 : decode cX5_emptySet 69 = .ok (.bipush 6, 2) := by decide +kernel
theorem dX5_emptySet_71 : decode cX5_emptySet 71 = .ok (.if_icmp .ge 32, 3) := by decide +kernel
theorem dX5_emptySet_74 : decode cX5_emptySet 74 = .ok (.aload_n 0, 1) := by decide +kernel
theorem dX5_emptySet_75 : decode cX5_emptySet 75 = .ok (.getfield 19, 3) := by decide +kernel
theorem dX5_emptySet_78 : decode cX5_emptySet 78 = .ok (.iload_n 3, 1) := by decide +kernel
theorem dX5_emptySet_79 : decode cX5_emptySet 79 = .ok (.aaload, 1) := by decide +kernel
theorem dX5_emptySet_80 : decode cX5_emptySet 80 = .ok (.iload_n 1, 1) := by decide +kernel
theorem dX5_emptySet_81 : decode cX5_emptySet 81 = .ok (.invokevirtual 117, 3) := by decide +kernel
theorem dX5_emptySet_84 : decode cX5_emptySet 84 = .ok (.ifCond .eq 13, 3) := by decide +kernel
theorem dX5_emptySet_87 : decode cX5_emptySet 87 = .ok (.aload_n 0, 1) := by decide +kernel
theorem dX5_emptySet_88 : decode cX5_emptySet 88 = .ok (.getfield 19, 3) := by decide +kernel
theorem dX5_emptySet_91 : decode cX5_emptySet 91 = .ok (.iload_n 3, 1) := by decide +kernel
theorem dX5_emptySet_92 : decode cX5_emptySet 92 = .ok (.aaload, 1) := by decide +kernel
theorem dX5_emptySet_93 : decode cX5_emptySet 93 = .ok (.iconst 0, 1) := by decide +kernel
theorem dX5_emptySet_94 : decode cX5_emptySet 94 = .ok (.putfield 52, 3) := by decide +kernel
theorem dX5_emptySet_97 : decode cX5_emptySet 97 = .ok (.iinc 3 1, 3) := by decide +kernel
theorem dX5_emptySet_100 : decode cX5_emptySet 100 = .ok (.goto (-32), 3) := by decide +kernel
theorem dX5_emptySet_103 : decode cX5_emptySet 103 = .ok (.return_, 1) := by decide +kernel
theorem dX3_readClear_0 : decode cX3_readClear 0 = .ok (.aload_n 0, 1) := by decide +kernel
theorem dX3_readClear_1 : decode cX3_readClear 1 = .ok (.invokevirtual 35, 3) := by decide +kernel
theorem dX3_readClear_4 : decode cX3_readClear 4 = .ok (.aload_n 0, 1) := by decide +kernel
theorem dX3_readClear_5 : decode cX3_readClear 5 = .ok (.invokevirtual 118, 3) := by decide +kernel
theorem dX3_readClear_8 : decode cX3_readClear 8 = .ok (.istore_n 1, 1) := by decide +kernel
theorem dX3_readClear_9 : decode cX3_readClear 9 = .ok (.iload_n 1, 1) := by decide +kernel
theorem dX3_readClear_10 : decode cX3_readClear 10 = .ok (.iconst (-1), 1) := by decide +kernel
theorem dX3_readClear_11 : decode cX3_readClear 11 = .ok (.if_icmp .ne 5, 3) := by decide +kernel
theorem dX3_readClear_14 : decode cX3_readClear 14 = .ok (.iconst 0, 1) := by decide +kernel
theorem dX3_readClear_15 : decode cX3_readClear 15 = .ok (.ireturn, 1) := by decide +kernel
theorem dX3_readClear_16 : decode cX3_readClear 16 = .ok (.aload_n 0, 1) := by decide +kernel
theorem dX3_readClear_17 : decode cX3_readClear 17 = .ok (.getfield 19, 3) := by decide +kernel
theorem dX3_readClear_20 : decode cX3_readClear 20 = .ok (.iload_n 1, 1) := by decide +kernel
theorem dX3_readClear_21 : decode cX3_readClear 21 = .ok (.invokevirtual 138, 3) := by decide +kernel
theorem dX3_readClear_24 : decode cX3_readClear 24 = .ok (.aload_n 0, 1) := by decide +kernel
theorem dX3_readClear_25 : decode cX3_readClear 25 = .ok (.invokevirtual 35, 3) := by decide +kernel
theorem dX3_readClear_28 : decode cX3_readClear 28 = .ok (.iconst 1, 1) := by decide +kernel
theorem dX3_readClear_29 : decode cX3_readClear 29 = .ok (.ireturn, 1) := by decide +kernel
theorem dX5_makeMark_0 : decode cX5_makeMark 0 = .ok (.aload_n 0, 1) := by decide +kernel
theorem dX5_makeMark_1 : decode cX5_makeMark 1 = .ok (.getfield 39, 3) := by decide +kernel
theorem dX5_makeMark_4 : decode cX5_makeMark 4 = .ok (.bipush 8, 2) := by decide +kernel
theorem dX5_makeMark_6 : decode cX5_makeMark 6 = .ok (.if_icmp .ge 26, 3) := by decide +kernel
theorem dX5_makeMark_9 : decode cX5_makeMark 9 = .ok (.aload_n 0, 1) := by decide +kernel
theorem dX5_makeMark_10 : decode cX5_makeMark 10 = .ok (.getfield 23, 3) := by decide +kernel
theorem dX5_makeMark_13 : decode cX5_makeMark 13 = .ok (.aload_n 0, 1) := by decide +kernel
theorem dX5_makeMark_14 : decode cX5_makeMark 14 = .ok (.getfield 39, 3) := by decide +kernel
theorem dX5_makeMark_17 : decode cX5_makeMark 17 = .ok (.aload_n 0, 1) := by decide +kernel
theorem dX5_makeMark_18 : decode cX5_makeMark 18 = .ok (.getfield 42, 3) := by decide +kernel
theorem dX5_makeMark_21 : decode cX5_makeMark 21 = .ok (.iastore, 1) := by decide +kernel
theorem dX5_makeMark_22 : decode cX5_makeMark 22 = .ok (.aload_n 0, 1) := by decide +kernel
theorem dX5_makeMark_23 : decode cX5_makeMark 23 = .ok (.dup, 1) := by decide +kernel
theorem dX5_makeMark_24 : decode cX5_makeMark 24 = .ok (.getfield 39, 3) := by decide +kernel
theorem dX5_makeMark_27 : decode cX5_makeMark 27 = .ok (.iconst 1, 1) := by decide +kernel
theorem dX5_makeMark_28 : decode cX5_makeMark 28 = .ok (.iadd, 1) := by decide +kernel
theorem dX5_makeMark_29 : decode cX5_makeMark 29 = .ok (.putfield 39, 3) := by decide +kernel
theorem dX5_makeMark_32 : decode cX5_makeMark 32 = .ok (.return_, 1) := by decide +kernel
theorem dX3_readMark_0 : decode cX3_readMark 0 = .ok (.aload_n 0, 1) := by decide +kernel
theorem dX3_readMark_1 : decode cX3_readMark 1 = .ok (.getfield 19, 3) := by decide +kernel
theorem dX3_readMark_4 : decode cX3_readMark 4 = .ok (.getfield 142, 3) := by decide +kernel
theorem dX3_readMark_7 : decode cX3_readMark 7 = .ok (.bipush 8, 2) := by decide +kernel
theorem dX3_readMark_9 : decode cX3_readMark 9 = .ok (.if_icmp .lt 9, 3) := by decide +kernel
theorem dX3_readMark_12 : decode cX3_readMark 12 = .ok (.aload_n 0, 1) := by decide +kernel
theorem dX3_readMark_13 : decode cX3_readMark 13 = .ok (.iconst 5, 1) := by decide +kernel
theorem dX3_readMark_14 : decode cX3_readMark 14 = .ok (.invokevirtual 90, 3) := by decide +kernel
theorem dX3_readMark_17 : decode cX3_readMark 17 = .ok (.ireturn, 1) := by decide +kernel
theorem dX3_readMark_18 : decode cX3_readMark 18 = .ok (.aload_n 0, 1) := by decide +kernel
theorem dX3_readMark_19 : decode cX3_readMark 19 = .ok (.getfield 19, 3) := by decide +kernel
theorem dX3_readMark_22 : decode cX3_readMark 22 = .ok (.invokevirtual 145, 3) := by decide +kernel
theorem dX3_readMark_25 : decode cX3_readMark 25 = .ok (.aload_n 0, 1) := by decide +kernel
theorem dX3_readMark_26 : decode cX3_readMark 26 = .ok (.invokevirtual 35, 3) := by decide +kernel
theorem dX3_readMark_29 : decode cX3_readMark 29 = .ok (.iconst 1, 1) := by decide +kernel
theorem dX3_readMark_30 : decode cX3_readMark 30 = .ok (.ireturn, 1) := by decide +kernel
theorem dX3_readStatement_0 : decode cX3_readStatement 0 = .ok (.aload_n 0, 1) := by decide +kernel
theorem dX3_readStatement_1 : decode cX3_readStatement 1 = .ok (.ldc 64, 2) := by decide +kernel
theorem dX3_readStatement_3 : decode cX3_readStatement 3 = .ok (.invokevirtual 66, 3) := by decide +kernel
theorem dX3_readStatement_6 : decode cX3_readStatement 6 = .ok (.ifCond .eq 8, 3) := by decide +kernel
theorem dX3_readStatement_9 : decode cX3_readStatement 9 = .ok (.aload_n 0, 1) := by decide +kernel
theorem dX3_readStatement_10 : decode cX3_readStatement 10 = .ok (.invokevirtual 69, 3) := by decide +kernel
theorem dX3_readStatement_13 : decode cX3_readStatement 13 = .ok (.ireturn, 1) := by decide +kernel
theorem dX3_readStatement_14 : decode cX3_readStatement 14 = .ok (.aload_n 0, 1) := by decide +kernel
theorem dX3_readStatement_15 : decode cX3_readStatement 15 = .ok (.ldc 72, 2) := by decide +kernel
theorem dX3_readStatement_17 : decode cX3_readStatement 17 = .ok (.invokevirtual 66, 3) := by decide +kernel
theorem dX3_readStatement_20 : decode cX3_readStatement 20 = .ok (.ifCond .eq 9, 3) := by decide +kernel
theorem dX3_readStatement_23 : decode cX3_readStatement 23 = .ok (.aload_n 0, 1) := by decide +kernel
theorem dX3_readStatement_24 : decode cX3_readStatement 24 = .ok (.iconst 1, 1) := by decide +kernel
theorem dX3_readStatement_25 : decode cX3_readStatement 25 = .ok (.invokevirtual 74, 3) := by decide +kernel
theorem dX3_readStatement_28 : decode cX3_readStatement 28 = .ok (.ireturn, 1) := by decide +kernel
theorem dX3_readStatement_29 : decode cX3_readStatement 29 = .ok (.aload_n 0, 1) := by decide +kernel
theorem dX3_readStatement_30 : decode cX3_readStatement 30 = .ok (.ldc 78, 2) := by decide +kernel
theorem dX3_readStatement_32 : decode cX3_readStatement 32 = .ok (.invokevirtual 66, 3) := by decide +kernel
theorem dX3_readStatement_35 : decode cX3_readStatement 35 = .ok (.ifCond .eq 9, 3) := by decide +kernel
theorem dX3_readStatement_38 : decode cX3_readStatement 38 = .ok (.aload_n 0, 1) := by decide +kernel
theorem dX3_readStatement_39 : decode cX3_readStatement 39 = .ok (.iconst 0, 1) := by decide +kernel
theorem dX3_readStatement_40 : decode cX3_readStatement 40 = .ok (.invokevirtual 74, 3) := by decide +kernel
theorem dX3_readStatement_43 : decode cX3_readStatement 43 = .ok (.ireturn, 1) := by decide +kernel
theorem dX3_readStatement_44 : decode cX3_readStatement 44 = .ok (.aload_n 0, 1) := by decide +kernel
theorem dX3_readStatement_45 : decode cX3_readStatement 45 = .ok (.ldc 80, 2) := by decide +kernel
theorem dX3_readStatement_47 : decode cX3_readStatement 47 = .ok (.invokevirtual 66, 3) := by decide +kernel
theorem dX3_readStatement_50 : decode cX3_readStatement 50 = .ok (.ifCond .eq 8, 3) := by decide +kernel
theorem dX3_readStatement_53 : decode cX3_readStatement 53 = .ok (.aload_n 0, 1) := by decide +kernel
theorem dX3_readStatement_54 : decode cX3_readStatement 54 = .ok (.invokevirtual 82, 3) := by decide +kernel
theorem dX3_readStatement_57 : decode cX3_readStatement 57 = .ok (.ireturn, 1) := by decide +kernel
theorem dX3_readStatement_58 : decode cX3_readStatement 58 = .ok (.aload_n 0, 1) := by decide +kernel
theorem dX3_readStatement_59 : decode cX3_readStatement 59 = .ok (.ldc 85, 2) := by decide +kernel
theorem dX3_readStatement_61 : decode cX3_readStatement 61 = .ok (.invokevirtual 66, 3) := by decide +kernel
theorem dX3_readStatement_64 : decode cX3_readStatement 64 = .ok (.ifCond .eq 8, 3) := by decide +kernel
theorem dX3_readStatement_67 : decode cX3_readStatement 67 = .ok (.aload_n 0, 1) := by decide +kernel
theorem dX3_readStatement_68 : decode cX3_readStatement 68 = .ok (.invokevirtual 87, 3) := by decide +kernel
theorem dX3_readStatement_71 : decode cX3_readStatement 71 = .ok (.ireturn, 1) := by decide +kernel
theorem dX3_readStatement_72 : decode cX3_readStatement 72 = .ok (.aload_n 0, 1) := by decide +kernel
theorem dX3_readStatement_73 : decode cX3_readStatement 73 = .ok (.iconst 1, 1) := by decide +kernel
theorem dX3_readStatement_74 : decode cX3_readStatement 74 = .ok (.invokevirtual 90, 3) := by decide +kernel
theorem dX3_readStatement_77 : decode cX3_readStatement 77 = .ok (.ireturn, 1) := by decide +kernel
theorem dX3_readText_0 : decode cX3_readText 0 = .ok (.aload_n 0, 1) := by decide +kernel
theorem dX3_readText_1 : decode cX3_readText 1 = .ok (.invokevirtual 35, 3) := by decide +kernel
theorem dX3_readText_4 : decode cX3_readText 4 = .ok (.aload_n 0, 1) := by decide +kernel
theorem dX3_readText_5 : decode cX3_readText 5 = .ok (.ldc 38, 2) := by decide +kernel
theorem dX3_readText_7 : decode cX3_readText 7 = .ok (.invokevirtual 40, 3) := by decide +kernel
theorem dX3_readText_10 : decode cX3_readText 10 = .ok (.ifCond .eq 13, 3) := by decide +kernel
theorem dX3_readText_13 : decode cX3_readText 13 = .ok (.aload_n 0, 1) := by decide +kernel
theorem dX3_readText_14 : decode cX3_readText 14 = .ok (.iconst 1, 1) := by decide +kernel
theorem dX3_readText_15 : decode cX3_readText 15 = .ok (.bipush 64, 2) := by decide +kernel
theorem dX3_readText_17 : decode cX3_readText 17 = .ok (.invokevirtual 44, 3) := by decide +kernel
theorem dX3_readText_20 : decode cX3_readText 20 = .ok (.ifCond .ne 5, 3) := by decide +kernel
theorem dX3_readText_23 : decode cX3_readText 23 = .ok (.iconst 0, 1) := by decide +kernel
theorem dX3_readText_24 : decode cX3_readText 24 = .ok (.ireturn, 1) := by decide +kernel
theorem dX3_readText_25 : decode cX3_readText 25 = .ok (.aload_n 0, 1) := by decide +kernel
theorem dX3_readText_26 : decode cX3_readText 26 = .ok (.getfield 48, 3) := by decide +kernel
theorem dX3_readText_29 : decode cX3_readText 29 = .ok (.istore_n 1, 1) := by decide +kernel
theorem dX3_readText_30 : decode cX3_readText 30 = .ok (.aload_n 0, 1) := by decide +kernel
theorem dX3_readText_31 : decode cX3_readText 31 = .ok (.invokevirtual 35, 3) := by decide +kernel
theorem dX3_readText_34 : decode cX3_readText 34 = .ok (.aload_n 0, 1) := by decide +kernel
theorem dX3_readText_35 : decode cX3_readText 35 = .ok (.iconst 1, 1) := by decide +kernel
theorem dX3_readText_36 : decode cX3_readText 36 = .ok (.bipush 60, 2) := by decide +kernel
theorem dX3_readText_38 : decode cX3_readText 38 = .ok (.invokevirtual 44, 3) := by decide +kernel
theorem dX3_readText_41 : decode cX3_readText 41 = .ok (.ifCond .ne 5, 3) := by decide +kernel
theorem dX3_readText_44 : decode cX3_readText 44 = .ok (.iconst 0, 1) := by decide +kernel
theorem dX3_readText_45 : decode cX3_readText 45 = .ok (.ireturn, 1) := by decide +kernel
theorem dX3_readText_46 : decode cX3_readText 46 = .ok (.aload_n 0, 1) := by decide +kernel
theorem dX3_readText_47 : decode cX3_readText 47 = .ok (.getfield 19, 3) := by decide +kernel
theorem dX3_readText_50 : decode cX3_readText 50 = .ok (.iload_n 1, 1) := by decide +kernel
theorem dX3_readText_51 : decode cX3_readText 51 = .ok (.aload_n 0, 1) := by decide +kernel
theorem dX3_readText_52 : decode cX3_readText 52 = .ok (.getfield 48, 3) := by decide +kernel
theorem dX3_readText_55 : decode cX3_readText 55 = .ok (.invokevirtual 51, 3) := by decide +kernel
theorem dX3_readText_58 : decode cX3_readText 58 = .ok (.aload_n 0, 1) := by decide +kernel
theorem dX3_readText_59 : decode cX3_readText 59 = .ok (.invokevirtual 35, 3) := by decide +kernel
theorem dX3_readText_62 : decode cX3_readText 62 = .ok (.aload_n 0, 1) := by decide +kernel
theorem dX3_readText_63 : decode cX3_readText 63 = .ok (.invokevirtual 57, 3) := by decide +kernel
theorem dX3_readText_66 : decode cX3_readText 66 = .ok (.istore_n 2, 1) := by decide +kernel
theorem dX3_readText_67 : decode cX3_readText 67 = .ok (.iconst 0, 1) := by decide +kernel
theorem dX3_readText_68 : decode cX3_readText 68 = .ok (.istore_n 3, 1) := by decide +kernel
theorem dX3_readText_69 : decode cX3_readText 69 = .ok (.iload_n 3, 1) := by decide +kernel
theorem dX3_readText_70 : decode cX3_readText 70 = .ok (.aload_n 0, 1) := by decide +kernel
theorem dX3_readText_71 : decode cX3_readText 71 = .ok (.getfield 15, 3) := by decide +kernel
theorem dX3_readText_74 : decode cX3_readText 74 = .ok (.if_icmp .ge 43, 3) := by decide +kernel
theorem dX3_readText_77 : decode cX3_readText 77 = .ok (.iload_n 2, 1) := by decide +kernel
theorem dX3_readText_78 : decode cX3_readText 78 = .ok (.ifCond .eq 39, 3) := by decide +kernel
theorem dX3_readText_81 : decode cX3_readText 81 = .ok (.aload_n 0, 1) := by decide +kernel
theorem dX3_readText_82 : decode cX3_readText 82 = .ok (.getfield 29, 3) := by decide +kernel
theorem dX3_readText_85 : decode cX3_readText 85 = .ok (.getstatic 23, 3) := by decide +kernel
theorem dX3_readText_88 : decode cX3_readText 88 = .ok (.if_acmp .eq 29, 3) := by decide +kernel
theorem dX3_readText_91 : decode cX3_readText 91 = .ok (.aload_n 0, 1) := by decide +kernel
theorem dX3_readText_92 : decode cX3_readText 92 = .ok (.invokevirtual 61, 3) := by decide +kernel
theorem dX3_readText_95 : decode cX3_readText 95 = .ok (.ifCond .eq 14, 3) := by decide +kernel
theorem dX3_readText_98 : decode cX3_readText 98 = .ok (.aload_n 0, 1) := by decide +kernel
theorem dX3_readText_99 : decode cX3_readText 99 = .ok (.invokevirtual 57, 3) := by decide +kernel
theorem dX3_readText_102 : decode cX3_readText 102 = .ok (.ifCond .eq 7, 3) := by decide +kernel
theorem dX3_readText_105 : decode cX3_readText 105 = .ok (.iconst 1, 1) := by decide +kernel
theorem dX3_readText_106 : decode cX3_readText 106 = .ok (.goto 4, 3) := by decide +kernel
theorem dX3_readText_109 : decode cX3_readText 109 = .ok (.iconst 0, 1) := by decide +kernel
theorem dX3_readText_110 : decode cX3_readText 110 = .ok (.istore_n 2, 1) := by decide +kernel
theorem dX3_readText_111 : decode cX3_readText 111 = .ok (.iinc 3 1, 3) := by decide +kernel
theorem dX3_readText_114 : decode cX3_readText 114 = .ok (.goto (-45), 3) := by decide +kernel
theorem dX3_readText_117 : decode cX3_readText 117 = .ok (.iload_n 2, 1) := by decide +kernel
theorem dX3_readText_118 : decode cX3_readText 118 = .ok (.ireturn, 1) := by decide +kernel
theorem dX4_init_0 : decode cX4_init 0 = .ok (.aload_n 0, 1) := by decide +kernel
theorem dX4_init_1 : decode cX4_init 1 = .ok (.invokespecial 3, 3) := by decide +kernel
theorem dX4_init_4 : decode cX4_init 4 = .ok (.aload_n 0, 1) := by decide +kernel
theorem dX4_init_5 : decode cX4_init 5 = .ok (.iconst 2, 1) := by decide +kernel
theorem dX4_init_6 : decode cX4_init 6 = .ok (.anewarray 9, 3) := by decide +kernel
theorem dX4_init_9 : decode cX4_init 9 = .ok (.putfield 11, 3) := by decide +kernel
theorem dX4_init_12 : decode cX4_init 12 = .ok (.aload_n 0, 1) := by decide +kernel
theorem dX4_init_13 : decode cX4_init 13 = .ok (.iconst 2, 1) := by decide +kernel
theorem dX4_init_14 : decode cX4_init 14 = .ok (.newarray .boolean, 2) := by decide +kernel
theorem dX4_init_16 : decode cX4_init 16 = .ok (.putfield 17, 3) := by decide +kernel
theorem dX4_init_19 : decode cX4_init 19 = .ok (.return_, 1) := by decide +kernel
theorem dX4_emptyAll_0 : decode cX4_emptyAll 0 = .ok (.iconst 0, 1) := by decide +kernel
theorem dX4_emptyAll_1 : decode cX4_emptyAll 1 = .ok (.istore_n 1, 1) := by decide +kernel
theorem dX4_emptyAll_2 : decode cX4_emptyAll 2 = .ok (.iload_n 1, 1) := by decide +kernel
theorem dX4_emptyAll_3 : decode cX4_emptyAll 3 = .ok (.iconst 2, 1) := by decide +kernel
theorem dX4_emptyAll_4 : decode cX4_emptyAll 4 = .ok (.if_icmp .ge 16, 3) := by decide +kernel
theorem dX4_emptyAll_7 : decode cX4_emptyAll 7 = .ok (.aload_n 0, 1) := by decide +kernel
theorem dX4_emptyAll_8 : decode cX4_emptyAll 8 = .ok (.getfield 17, 3) := by decide +kernel
theorem dX4_emptyAll_11 : decode cX4_emptyAll 11 = .ok (.iload_n 1, 1) := by decide +kernel
theorem dX4_emptyAll_12 : decode cX4_emptyAll 12 = .ok (.iconst 0, 1) := by decide +kernel
theorem dX4_emptyAll_13 : decode cX4_emptyAll 13 = .ok (.bastore, 1) := by decide +kernel
theorem dX4_emptyAll_14 : decode cX4_emptyAll 14 = .ok (.iinc 1 1, 3) := by decide +kernel
theorem dX4_emptyAll_17 : decode cX4_emptyAll 17 = .ok (.goto (-15), 3) := by decide +kernel
theorem dX4_emptyAll_20 : decode cX4_emptyAll 20 = .ok (.return_, 1) := by decide +kernel
theorem dX7_init_0 : decode cX7_init 0 = .ok (.aload_n 0, 1) := by decide +kernel
theorem dX7_init_1 : decode cX7_init 1 = .ok (.invokespecial 3, 3) := by decide +kernel
theorem dX7_init_4 : decode cX7_init 4 = .ok (.aload_n 0, 1) := by decide +kernel
theorem dX7_init_5 : decode cX7_init 5 = .ok (.bipush 64, 2) := by decide +kernel
theorem dX7_init_7 : decode cX7_init 7 = .ok (.newarray .int, 2) := by decide +kernel
theorem dX7_init_9 : decode cX7_init 9 = .ok (.putfield 9, 3) := by decide +kernel
theorem dX7_init_12 : decode cX7_init 12 = .ok (.aload_n 0, 1) := by decide +kernel
theorem dX7_init_13 : decode cX7_init 13 = .ok (.bipush 64, 2) := by decide +kernel
theorem dX7_init_15 : decode cX7_init 15 = .ok (.newarray .int, 2) := by decide +kernel
theorem dX7_init_17 : decode cX7_init 17 = .ok (.putfield 15, 3) := by decide +kernel
theorem dX7_init_20 : decode cX7_init 20 = .ok (.aload_n 0, 1) := by decide +kernel
theorem dX7_init_21 : decode cX7_init 21 = .ok (.bipush 64, 2) := by decide +kernel
theorem dX7_init_23 : decode cX7_init 23 = .ok (.newarray .int, 2) := by decide +kernel
theorem dX7_init_25 : decode cX7_init 25 = .ok (.putfield 18, 3) := by decide +kernel
theorem dX7_init_28 : decode cX7_init 28 = .ok (.aload_n 0, 1) := by decide +kernel
theorem dX7_init_29 : decode cX7_init 29 = .ok (.new 21, 3) := by decide +kernel
theorem dX7_init_32 : decode cX7_init 32 = .ok (.dup, 1) := by decide +kernel
theorem dX7_init_33 : decode cX7_init 33 = .ok (.invokespecial 23, 3) := by decide +kernel
theorem dX7_init_36 : decode cX7_init 36 = .ok (.putfield 24, 3) := by decide +kernel
theorem dX7_init_39 : decode cX7_init 39 = .ok (.aload_n 0, 1) := by decide +kernel
theorem dX7_init_40 : decode cX7_init 40 = .ok (.ldc 28, 2) := by decide +kernel
theorem dX7_init_42 : decode cX7_init 42 = .ok (.putfield 30, 3) := by decide +kernel
theorem dX7_init_45 : decode cX7_init 45 = .ok (.return_, 1) := by decide +kernel
theorem dX5_init_0 : decode cX5_init 0 = .ok (.aload_n 0, 1) := by decide +kernel
theorem dX5_init_1 : decode cX5_init 1 = .ok (.invokespecial 3, 3) := by decide +kernel
theorem dX5_init_4 : decode cX5_init 4 = .ok (.aload_n 0, 1) := by decide +kernel
theorem dX5_init_5 : decode cX5_init 5 = .ok (.iconst 5, 1) := by decide +kernel
theorem dX5_init_6 : decode cX5_init 6 = .ok (.anewarray 9, 3) := by decide +kernel
theorem dX5_init_9 : decode cX5_init 9 = .ok (.putfield 11, 3) := by decide +kernel
theorem dX5_init_12 : decode cX5_init 12 = .ok (.aload_n 0, 1) := by decide +kernel
theorem dX5_init_13 : decode cX5_init 13 = .ok (.bipush 6, 2) := by decide +kernel
theorem dX5_init_15 : decode cX5_init 15 = .ok (.anewarray 17, 3) := by decide +kernel
theorem dX5_init_18 : decode cX5_init 18 = .ok (.putfield 19, 3) := by decide +kernel
theorem dX5_init_21 : decode cX5_init 21 = .ok (.aload_n 0, 1) := by decide +kernel
theorem dX5_init_22 : decode cX5_init 22 = .ok (.bipush 8, 2) := by decide +kernel
theorem dX5_init_24 : decode cX5_init 24 = .ok (.newarray .int, 2) := by decide +kernel
theorem dX5_init_26 : decode cX5_init 26 = .ok (.putfield 23, 3) := by decide +kernel
theorem dX5_init_29 : decode cX5_init 29 = .ok (.iconst 0, 1) := by decide +kernel
theorem dX5_init_30 : decode cX5_init 30 = .ok (.istore_n 1, 1) := by decide +kernel
theorem dX5_init_31 : decode cX5_init 31 = .ok (.iload_n 1, 1) := by decide +kernel
theorem dX5_init_32 : decode cX5_init 32 = .ok (.iconst 5, 1) := by decide +kernel
theorem dX5_init_33 : decode cX5_init 33 = .ok (.if_icmp .ge 22, 3) := by decide +kernel
theorem dX5_init_36 : decode cX5_init 36 = .ok (.aload_n 0, 1) := by decide +kernel
theorem dX5_init_37 : decode cX5_init 37 = .ok (.getfield 11, 3) := by decide +kernel
theorem dX5_init_40 : decode cX5_init 40 = .ok (.iload_n 1, 1) := by decide +kernel
theorem dX5_init_41 : decode cX5_init 41 = .ok (.new 9, 3) := by decide +kernel
theorem dX5_init_44 : decode cX5_init 44 = .ok (.dup, 1) := by decide +kernel
theorem dX5_init_45 : decode cX5_init 45 = .ok (.invokespecial 27, 3) := by decide +kernel
theorem dX5_init_48 : decode cX5_init 48 = .ok (.aastore, 1) := by decide +kernel
theorem dX5_init_49 : decode cX5_init 49 = .ok (.iinc 1 1, 3) := by decide +kernel
theorem dX5_init_52 : decode cX5_init 52 = .ok (.goto (-21), 3) := by decide +kernel
theorem dX5_init_55 : decode cX5_init 55 = .ok (.iconst 0, 1) := by decide +kernel
theorem dX5_init_56 : decode cX5_init 56 = .ok (.istore_n 1, 1) := by decide +kernel
theorem dX5_init_57 : decode cX5_init 57 = .ok (.iload_n 1, 1) := by decide +kernel
theorem dX5_init_58 : decode cX5_init 58 = .ok (.bipush 6, 2) := by decide +kernel
theorem dX5_init_60 : decode cX5_init 60 = .ok (.if_icmp .ge 22, 3) := by decide +kernel
theorem dX5_init_63 : decode cX5_init 63 = .ok (.aload_n 0, 1) := by decide +kernel
theorem dX5_init_64 : decode cX5_init 64 = .ok (.getfield 19, 3) := by decide +kernel
theorem dX5_init_67 : decode cX5_init 67 = .ok (.iload_n 1, 1) := by decide +kernel
theorem dX5_init_68 : decode cX5_init 68 = .ok (.new 17, 3) := by decide +kernel
theorem dX5_init_71 : decode cX5_init 71 = .ok (.dup, 1) := by decide +kernel
theorem dX5_init_72 : decode cX5_init 72 = .ok (.invokespecial 28, 3) := by decide +kernel
theorem dX5_init_75 : decode cX5_init 75 = .ok (.aastore, 1) := by decide +kernel
theorem dX5_init_76 : decode cX5_init 76 = .ok (.iinc 1 1, 3) := by decide +kernel
theorem dX5_init_79 : decode cX5_init 79 = .ok (.goto (-22), 3) := by decide +kernel
theorem dX5_init_82 : decode cX5_init 82 = .ok (.return_, 1) := by decide +kernel
theorem dX7_copyFrom_0 : decode cX7_copyFrom 0 = .ok (.aload_n 0, 1) := by decide +kernel
theorem dX7_copyFrom_1 : decode cX7_copyFrom 1 = .ok (.aload_n 1, 1) := by decide +kernel
theorem dX7_copyFrom_2 : decode cX7_copyFrom 2 = .ok (.getfield 30, 3) := by decide +kernel
theorem dX7_copyFrom_5 : decode cX7_copyFrom 5 = .ok (.putfield 30, 3) := by decide +kernel
theorem dX7_copyFrom_8 : decode cX7_copyFrom 8 = .ok (.aload_n 0, 1) := by decide +kernel
theorem dX7_copyFrom_9 : decode cX7_copyFrom 9 = .ok (.aload_n 1, 1) := by decide +kernel
theorem dX7_copyFrom_10 : decode cX7_copyFrom 10 = .ok (.getfield 34, 3) := by decide +kernel
theorem dX7_copyFrom_13 : decode cX7_copyFrom 13 = .ok (.putfield 34, 3) := by decide +kernel
theorem dX7_copyFrom_16 : decode cX7_copyFrom 16 = .ok (.aload_n 0, 1) := by decide +kernel
theorem dX7_copyFrom_17 : decode cX7_copyFrom 17 = .ok (.aload_n 1, 1) := by decide +kernel
theorem dX7_copyFrom_18 : decode cX7_copyFrom 18 = .ok (.getfield 38, 3) := by decide +kernel
theorem dX7_copyFrom_21 : decode cX7_copyFrom 21 = .ok (.putfield 38, 3) := by decide +kernel
theorem dX7_copyFrom_24 : decode cX7_copyFrom 24 = .ok (.aload_n 1, 1) := by decide +kernel
theorem dX7_copyFrom_25 : decode cX7_copyFrom 25 = .ok (.getfield 9, 3) := by decide +kernel
theorem dX7_copyFrom_28 : decode cX7_copyFrom 28 = .ok (.iconst 0, 1) := by decide +kernel
theorem dX7_copyFrom_29 : decode cX7_copyFrom 29 = .ok (.aload_n 0, 1) := by decide +kernel
theorem dX7_copyFrom_30 : decode cX7_copyFrom 30 = .ok (.getfield 9, 3) := by decide +kernel
theorem dX7_copyFrom_33 : decode cX7_copyFrom 33 = .ok (.iconst 0, 1) := by decide +kernel
theorem dX7_copyFrom_34 : decode cX7_copyFrom 34 = .ok (.bipush 64, 2) := by decide +kernel
theorem dX7_copyFrom_36 : decode cX7_copyFrom 36 = .ok (.invokestatic 50, 3) := by decide +kernel
theorem dX7_copyFrom_39 : decode cX7_copyFrom 39 = .ok (.aload_n 1, 1) := by decide +kernel
theorem dX7_copyFrom_40 : decode cX7_copyFrom 40 = .ok (.getfield 15, 3) := by decide +kernel
theorem dX7_copyFrom_43 : decode cX7_copyFrom 43 = .ok (.iconst 0, 1) := by decide +kernel
theorem dX7_copyFrom_44 : decode cX7_copyFrom 44 = .ok (.aload_n 0, 1) := by decide +kernel
theorem dX7_copyFrom_45 : decode cX7_copyFrom 45 = .ok (.getfield 15, 3) := by decide +kernel
theorem dX7_copyFrom_48 : decode cX7_copyFrom 48 = .ok (.iconst 0, 1) := by decide +kernel
theorem dX7_copyFrom_49 : decode cX7_copyFrom 49 = .ok (.bipush 64, 2) := by decide +kernel
theorem dX7_copyFrom_51 : decode cX7_copyFrom 51 = .ok (.invokestatic 50, 3) := by decide +kernel
theorem dX7_copyFrom_54 : decode cX7_copyFrom 54 = .ok (.aload_n 1, 1) := by decide +kernel
theorem dX7_copyFrom_55 : decode cX7_copyFrom 55 = .ok (.getfield 18, 3) := by decide +kernel
theorem dX7_copyFrom_58 : decode cX7_copyFrom 58 = .ok (.iconst 0, 1) := by decide +kernel
theorem dX7_copyFrom_59 : decode cX7_copyFrom 59 = .ok (.aload_n 0, 1) := by decide +kernel
theorem dX7_copyFrom_60 : decode cX7_copyFrom 60 = .ok (.getfield 18, 3) := by decide +kernel
theorem dX7_copyFrom_63 : decode cX7_copyFrom 63 = .ok (.iconst 0, 1) := by decide +kernel
theorem dX7_copyFrom_64 : decode cX7_copyFrom 64 = .ok (.bipush 64, 2) := by decide +kernel
theorem dX7_copyFrom_66 : decode cX7_copyFrom 66 = .ok (.invokestatic 50, 3) := by decide +kernel
theorem dX7_copyFrom_69 : decode cX7_copyFrom 69 = .ok (.aload_n 0, 1) := by decide +kernel
theorem dX7_copyFrom_70 : decode cX7_copyFrom 70 = .ok (.getfield 24, 3) := by decide +kernel
theorem dX7_copyFrom_73 : decode cX7_copyFrom 73 = .ok (.aload_n 1, 1) := by decide +kernel
theorem dX7_copyFrom_74 : decode cX7_copyFrom 74 = .ok (.getfield 24, 3) := by decide +kernel
theorem dX7_copyFrom_77 : decode cX7_copyFrom 77 = .ok (.invokevirtual 56, 3) := by decide +kernel
theorem dX7_copyFrom_80 : decode cX7_copyFrom 80 = .ok (.return_, 1) := by decide +kernel
theorem dX5_copyFrom_0 : decode cX5_copyFrom 0 = .ok (.aload_n 0, 1) := by decide +kernel
theorem dX5_copyFrom_1 : decode cX5_copyFrom 1 = .ok (.aload_n 1, 1) := by decide +kernel
theorem dX5_copyFrom_2 : decode cX5_copyFrom 2 = .ok (.getfield 29, 3) := by decide +kernel
theorem dX5_copyFrom_5 : decode cX5_copyFrom 5 = .ok (.putfield 29, 3) := by decide +kernel
theorem dX5_copyFrom_8 : decode cX5_copyFrom 8 = .ok (.aload_n 0, 1) := by decide +kernel
theorem dX5_copyFrom_9 : decode cX5_copyFrom 9 = .ok (.aload_n 1, 1) := by decide +kernel
theorem dX5_copyFrom_10 : decode cX5_copyFrom 10 = .ok (.getfield 33, 3) := by decide +kernel
theorem dX5_copyFrom_13 : decode cX5_copyFrom 13 = .ok (.putfield 33, 3) := by decide +kernel
theorem dX5_copyFrom_16 : decode cX5_copyFrom 16 = .ok (.aload_n 0, 1) := by decide +kernel
theorem dX5_copyFrom_17 : decode cX5_copyFrom 17 = .ok (.aload_n 1, 1) := by decide +kernel
theorem dX5_copyFrom_18 : decode cX5_copyFrom 18 = .ok (.getfield 36, 3) := by decide +kernel
theorem dX5_copyFrom_21 : decode cX5_copyFrom 21 = .ok (.putfield 36, 3) := by decide +kernel
theorem dX5_copyFrom_24 : decode cX5_copyFrom 24 = .ok (.aload_n 0, 1) := by decide +kernel
theorem dX5_copyFrom_25 : decode cX5_copyFrom 25 = .ok (.aload_n 1, 1) := by decide +kernel
theorem dX5_copyFrom_26 : decode cX5_copyFrom 26 = .ok (.getfield 39, 3) := by decide +kernel
theorem dX5_copyFrom_29 : decode cX5_copyFrom 29 = .ok (.putfield 39, 3) := by decide +kernel
theorem dX5_copyFrom_32 : decode cX5_copyFrom 32 = .ok (.aload_n 0, 1) := by decide +kernel
theorem dX5_copyFrom_33 : decode cX5_copyFrom 33 = .ok (.aload_n 1, 1) := by decide +kernel
theorem dX5_copyFrom_34 : decode cX5_copyFrom 34 = .ok (.getfield 42, 3) := by decide +kernel
theorem dX5_copyFrom_37 : decode cX5_copyFrom 37 = .ok (.putfield 42, 3) := by decide +kernel
theorem dX5_copyFrom_40 : decode cX5_copyFrom 40 = .ok (.aload_n 0, 1) := by decide +kernel
theorem dX5_copyFrom_41 : decode cX5_copyFrom 41 = .ok (.aload_n 1, 1) := by decide +kernel
theorem dX5_copyFrom_42 : decode cX5_copyFrom 42 = .ok (.getfield 45, 3) := by decide +kernel
theorem dX5_copyFrom_45 : decode cX5_copyFrom 45 = .ok (.putfield 45, 3) := by decide +kernel
theorem dX5_copyFrom_48 : decode cX5_copyFrom 48 = .ok (.aload_n 1, 1) := by decide +kernel
theorem dX5_copyFrom_49 : decode cX5_copyFrom 49 = .ok (.getfield 23, 3) := by decide +kernel
theorem dX5_copyFrom_52 : decode cX5_copyFrom 52 = .ok (.iconst 0, 1) := by decide +kernel
theorem dX5_copyFrom_53 : decode cX5_copyFrom 53 = .ok (.aload_n 0, 1) := by decide +kernel
theorem dX5_copyFrom_54 : decode cX5_copyFrom 54 = .ok (.getfield 23, 3) := by decide +kernel
theorem dX5_copyFrom_57 : decode cX5_copyFrom 57 = .ok (.iconst 0, 1) := by decide +kernel
theorem dX5_copyFrom_58 : decode cX5_copyFrom 58 = .ok (.bipush 8, 2) := by decide +kernel
theorem dX5_copyFrom_60 : decode cX5_copyFrom 60 = .ok (.invokestatic 59, 3) := by decide +kernel
theorem dX5_copyFrom_63 : decode cX5_copyFrom 63 = .ok (.iconst 0, 1) := by decide +kernel
theorem dX5_copyFrom_64 : decode cX5_copyFrom 64 = .ok (.istore_n 2, 1) := by decide +kernel
theorem dX5_copyFrom_65 : decode cX5_copyFrom 65 = .ok (.iload_n 2, 1) := by decide +kernel
theorem dX5_copyFrom_66 : decode cX5_copyFrom 66 = .ok (.aload_n 0, 1) := by decide +kernel
theorem dX5_copyFrom_67 : decode cX5_copyFrom 67 = .ok (.getfield 36, 3) := by decide +kernel
theorem dX5_copyFrom_70 : decode cX5_copyFrom 70 = .ok (.if_icmp .ge 24, 3) := by decide +kernel
theorem dX5_copyFrom_73 : decode cX5_copyFrom 73 = .ok (.aload_n 0, 1) := by decide +kernel
theorem dX5_copyFrom_74 : decode cX5_copyFrom 74 = .ok (.getfield 11, 3) := by decide +kernel
theorem dX5_copyFrom_77 : decode cX5_copyFrom 77 = .ok (.iload_n 2, 1) := by decide +kernel
theorem dX5_copyFrom_78 : decode cX5_copyFrom 78 = .ok (.aaload, 1) := by decide +kernel
theorem dX5_copyFrom_79 : decode cX5_copyFrom 79 = .ok (.aload_n 1, 1) := by decide +kernel
theorem dX5_copyFrom_80 : decode cX5_copyFrom 80 = .ok (.getfield 11, 3) := by decide +kernel
theorem dX5_copyFrom_83 : decode cX5_copyFrom 83 = .ok (.iload_n 2, 1) := by decide +kernel
theorem dX5_copyFrom_84 : decode cX5_copyFrom 84 = .ok (.aaload, 1) := by decide +kernel
theorem dX5_copyFrom_85 : decode cX5_copyFrom 85 = .ok (.invokevirtual 65, 3) := by decide +kernel
theorem dX5_copyFrom_88 : decode cX5_copyFrom 88 = .ok (.iinc 2 1, 3) := by decide +kernel
theorem dX5_copyFrom_91 : decode cX5_copyFrom 91 = .ok (.goto (-26), 3) := by decide +kernel
theorem dX5_copyFrom_94 : decode cX5_copyFrom 94 = .ok (.iconst 0, 1) := by decide +kernel
theorem dX5_copyFrom_95 : decode cX5_copyFrom 95 = .ok (.istore_n 2, 1) := by decide +kernel
theorem dX5_copyFrom_96 : decode cX5_copyFrom 96 = .ok (.iload_n 2, 1) := by decide +kernel
theorem dX5_copyFrom_97 : decode cX5_copyFrom 97 = .ok (.bipush 6, 2) := by decide +kernel
theorem dX5_copyFrom_99 : decode cX5_copyFrom 99 = .ok (.if_icmp .ge 24, 3) := by decide +kernel
theorem dX5_copyFrom_102 : decode cX5_copyFrom 102 = .ok (.aload_n 0, 1) := by decide +kernel
theorem dX5_copyFrom_103 : decode cX5_copyFrom 103 = .ok (.getfield 19, 3) := by decide +kernel
theorem dX5_copyFrom_106 : decode cX5_copyFrom 106 = .ok (.iload_n 2, 1) := by decide +kernel
theorem dX5_copyFrom_107 : decode cX5_copyFrom 107 = .ok (.aaload, 1) := by decide +kernel
theorem dX5_copyFrom_108 : decode cX5_copyFrom 108 = .ok (.aload_n 1, 1) := by decide +kernel
theorem dX5_copyFrom_109 : decode cX5_copyFrom 109 = .ok (.getfield 19, 3) := by decide +kernel
theorem dX5_copyFrom_112 : decode cX5_copyFrom 112 = .ok (.iload_n 2, 1) := by decide +kernel
theorem dX5_copyFrom_113 : decode cX5_copyFrom 113 = .ok (.aaload, 1) := by decide +kernel
theorem dX5_copyFrom_114 : decode cX5_copyFrom 114 = .ok (.invokevirtual 69, 3) := by decide +kernel
theorem dX5_copyFrom_117 : decode cX5_copyFrom 117 = .ok (.iinc 2 1, 3) := by decide +kernel
theorem dX5_copyFrom_120 : decode cX5_copyFrom 120 = .ok (.goto (-24), 3) := by decide +kernel
theorem dX5_copyFrom_123 : decode cX5_copyFrom 123 = .ok (.return_, 1) := by decide +kernel
theorem dX5_hasNumber_0 : decode cX5_hasNumber 0 = .ok (.iload_n 1, 1) := by decide +kernel
theorem dX5_hasNumber_1 : decode cX5_hasNumber 1 = .ok (.ifCond .lt 15, 3) := by decide +kernel
theorem dX5_hasNumber_4 : decode cX5_hasNumber 4 = .ok (.iload_n 1, 1) := by decide +kernel
theorem dX5_hasNumber_5 : decode cX5_hasNumber 5 = .ok (.aload_n 0, 1) := by decide +kernel
theorem dX5_hasNumber_6 : decode cX5_hasNumber 6 = .ok (.getfield 29, 3) := by decide +kernel
theorem dX5_hasNumber_9 : decode cX5_hasNumber 9 = .ok (.if_icmp .ge 7, 3) := by decide +kernel
theorem dX5_hasNumber_12 : decode cX5_hasNumber 12 = .ok (.iconst 1, 1) := by decide +kernel
theorem dX5_hasNumber_13 : decode cX5_hasNumber 13 = .ok (.goto 4, 3) := by decide +kernel
theorem dX5_hasNumber_16 : decode cX5_hasNumber 16 = .ok (.iconst 0, 1) := by decide +kernel
theorem dX5_hasNumber_17 : decode cX5_hasNumber 17 = .ok (.ireturn, 1) := by decide +kernel
theorem dX5_keepCommon_0 : decode cX5_keepCommon 0 = .ok (.aload_n 0, 1) := by decide +kernel
theorem dX5_keepCommon_1 : decode cX5_keepCommon 1 = .ok (.getfield 11, 3) := by decide +kernel
theorem dX5_keepCommon_4 : decode cX5_keepCommon 4 = .ok (.iload_n 1, 1) := by decide +kernel
theorem dX5_keepCommon_5 : decode cX5_keepCommon 5 = .ok (.aaload, 1) := by decide +kernel
theorem dX5_keepCommon_6 : decode cX5_keepCommon 6 = .ok (.astore_n 3, 1) := by decide +kernel
theorem dX5_keepCommon_7 : decode cX5_keepCommon 7 = .ok (.iconst 0, 1) := by decide +kernel
theorem dX5_keepCommon_8 : decode cX5_keepCommon 8 = .ok (.istore 4, 2) := by decide +kernel
theorem dX5_keepCommon_10 : decode cX5_keepCommon 10 = .ok (.aload_n 3, 1) := by decide +kernel
theorem dX5_keepCommon_11 : decode cX5_keepCommon 11 = .ok (.getfield 86, 3) := by decide +kernel
theorem dX5_keepCommon_14 : decode cX5_keepCommon 14 = .ok (.iconst 1, 1) := by decide +kernel
theorem dX5_keepCommon_15 : decode cX5_keepCommon 15 = .ok (.isub, 1) := by decide +kernel
theorem dX5_keepCommon_16 : decode cX5_keepCommon 16 = .ok (.istore 5, 2) := by decide +kernel
theorem dX5_keepCommon_18 : decode cX5_keepCommon 18 = .ok (.iload 5, 2) := by decide +kernel
theorem dX5_keepCommon_20 : decode cX5_keepCommon 20 = .ok (.ifCond .lt 43, 3) := by decide +kernel
theorem dX5_keepCommon_23 : decode cX5_keepCommon 23 = .ok (.aload_n 3, 1) := by decide +kernel
theorem dX5_keepCommon_24 : decode cX5_keepCommon 24 = .ok (.getfield 123, 3) := by decide +kernel
theorem dX5_keepCommon_27 : decode cX5_keepCommon 27 = .ok (.iload 5, 2) := by decide +kernel
theorem dX5_keepCommon_29 : decode cX5_keepCommon 29 = .ok (.iaload, 1) := by decide +kernel
theorem dX5_keepCommon_30 : decode cX5_keepCommon 30 = .ok (.istore 6, 2) := by decide +kernel
theorem dX5_keepCommon_32 : decode cX5_keepCommon 32 = .ok (.aload_n 0, 1) := by decide +kernel
theorem dX5_keepCommon_33 : decode cX5_keepCommon 33 = .ok (.getfield 11, 3) := by decide +kernel
theorem dX5_keepCommon_36 : decode cX5_keepCommon 36 = .ok (.iload_n 2, 1) := by decide +kernel
theorem dX5_keepCommon_37 : decode cX5_keepCommon 37 = .ok (.aaload, 1) := by decide +kernel
theorem dX5_keepCommon_38 : decode cX5_keepCommon 38 = .ok (.iload 6, 2) := by decide +kernel
theorem dX5_keepCommon_40 : decode cX5_keepCommon 40 = .ok (.invokevirtual 82, 3) := by decide +kernel
theorem dX5_keepCommon_43 : decode cX5_keepCommon 43 = .ok (.ifCond .ne 14, 3) := by decide +kernel
theorem dX5_keepCommon_46 : decode cX5_keepCommon 46 = .ok (.aload_n 0, 1) := by decide +kernel
theorem dX5_keepCommon_47 : decode cX5_keepCommon 47 = .ok (.iload_n 1, 1) := by decide +kernel
theorem dX5_keepCommon_48 : decode cX5_keepCommon 48 = .ok (.iload 6, 2) := by decide +kernel
theorem dX5_keepCommon_50 : decode cX5_keepCommon 50 = .ok (.invokevirtual 132, 3) := by decide +kernel
theorem dX5_keepCommon_53 : decode cX5_keepCommon 53 = .ok (.pop, 1) := by decide +kernel
theorem dX5_keepCommon_54 : decode cX5_keepCommon 54 = .ok (.iinc 4 1, 3) := by decide +kernel
theorem dX5_keepCommon_57 : decode cX5_keepCommon 57 = .ok (.iinc 5 (-1), 3) := by decide +kernel
theorem dX5_keepCommon_60 : decode cX5_keepCommon 60 = .ok (.goto (-42), 3) := by decide +kernel
theorem dX5_keepCommon_63 : decode cX5_keepCommon 63 = .ok (.iload 4, 2) := by decide +kernel
theorem dX5_keepCommon_65 : decode cX5_keepCommon 65 = .ok (.ireturn, 1) := by decide +kernel
theorem dX5_bringAll_0 : decode cX5_bringAll 0 = .ok (.aload_n 0, 1) := by decide +kernel
theorem dX5_bringAll_1 : decode cX5_bringAll 1 = .ok (.getfield 11, 3) := by decide +kernel
theorem dX5_bringAll_4 : decode cX5_bringAll 4 = .ok (.iload_n 2, 1) := by decide +kernel
theorem dX5_bringAll_5 : decode cX5_bringAll 5 = .ok (.aaload, 1) := by decide +kernel
theorem dX5_bringAll_6 : decode cX5_bringAll 6 = .ok (.astore_n 3, 1) := by decide +kernel
theorem dX5_bringAll_7 : decode cX5_bringAll 7 = .ok (.iconst 0, 1) := by decide +kernel
theorem dX5_bringAll_8 : decode cX5_bringAll 8 = .ok (.istore 4, 2) := by decide +kernel
theorem dX5_bringAll_10 : decode cX5_bringAll 10 = .ok (.iconst 0, 1) := by decide +kernel
theorem dX5_bringAll_11 : decode cX5_bringAll 11 = .ok (.istore 5, 2) := by decide +kernel
theorem dX5_bringAll_13 : decode cX5_bringAll 13 = .ok (.iload 5, 2) := by decide +kernel
theorem dX5_bringAll_15 : decode cX5_bringAll 15 = .ok (.aload_n 3, 1) := by decide +kernel
theorem dX5_bringAll_16 : decode cX5_bringAll 16 = .ok (.getfield 86, 3) := by decide +kernel
theorem dX5_bringAll_19 : decode cX5_bringAll 19 = .ok (.if_icmp .ge 32, 3) := by decide +kernel
theorem dX5_bringAll_22 : decode cX5_bringAll 22 = .ok (.aload_n 0, 1) := by decide +kernel
theorem dX5_bringAll_23 : decode cX5_bringAll 23 = .ok (.aload_n 0, 1) := by decide +kernel
theorem dX5_bringAll_24 : decode cX5_bringAll 24 = .ok (.getfield 11, 3) := by decide +kernel
theorem dX5_bringAll_27 : decode cX5_bringAll 27 = .ok (.iload_n 1, 1) := by decide +kernel
theorem dX5_bringAll_28 : decode cX5_bringAll 28 = .ok (.aaload, 1) := by decide +kernel
theorem dX5_bringAll_29 : decode cX5_bringAll 29 = .ok (.aload_n 3, 1) := by decide +kernel
theorem dX5_bringAll_30 : decode cX5_bringAll 30 = .ok (.getfield 123, 3) := by decide +kernel
theorem dX5_bringAll_33 : decode cX5_bringAll 33 = .ok (.iload 5, 2) := by decide +kernel
theorem dX5_bringAll_35 : decode cX5_bringAll 35 = .ok (.iaload, 1) := by decide +kernel
theorem dX5_bringAll_36 : decode cX5_bringAll 36 = .ok (.invokevirtual 135, 3) := by decide +kernel
theorem dX5_bringAll_39 : decode cX5_bringAll 39 = .ok (.ifCond .eq 6, 3) := by decide +kernel
theorem dX5_bringAll_42 : decode cX5_bringAll 42 = .ok (.iinc 4 1, 3) := by decide +kernel
theorem dX5_bringAll_45 : decode cX5_bringAll 45 = .ok (.iinc 5 1, 3) := by decide +kernel
theorem dX5_bringAll_48 : decode cX5_bringAll 48 = .ok (.goto (-35), 3) := by decide +kernel
theorem dX5_bringAll_51 : decode cX5_bringAll 51 = .ok (.iload 4, 2) := by decide +kernel
theorem dX5_bringAll_53 : decode cX5_bringAll 53 = .ok (.ireturn, 1) := by decide +kernel
theorem dX5_freeCursor_0 : decode cX5_freeCursor 0 = .ok (.iconst 0, 1) := by decide +kernel
theorem dX5_freeCursor_1 : decode cX5_freeCursor 1 = .ok (.istore_n 1, 1) := by decide +kernel
theorem dX5_freeCursor_2 : decode cX5_freeCursor 2 = .ok (.iload_n 1, 1) := by decide +kernel
theorem dX5_freeCursor_3 : decode cX5_freeCursor 3 = .ok (.bipush 6, 2) := by decide +kernel
theorem dX5_freeCursor_5 : decode cX5_freeCursor 5 = .ok (.if_icmp .ge 23, 3) := by decide +kernel
theorem dX5_freeCursor_8 : decode cX5_freeCursor 8 = .ok (.aload_n 0, 1) := by decide +kernel
theorem dX5_freeCursor_9 : decode cX5_freeCursor 9 = .ok (.getfield 19, 3) := by decide +kernel
theorem dX5_freeCursor_12 : decode cX5_freeCursor 12 = .ok (.iload_n 1, 1) := by decide +kernel
theorem dX5_freeCursor_13 : decode cX5_freeCursor 13 = .ok (.aaload, 1) := by decide +kernel
theorem dX5_freeCursor_14 : decode cX5_freeCursor 14 = .ok (.getfield 48, 3) := by decide +kernel
theorem dX5_freeCursor_17 : decode cX5_freeCursor 17 = .ok (.ifCond .ne 5, 3) := by decide +kernel
theorem dX5_freeCursor_20 : decode cX5_freeCursor 20 = .ok (.iload_n 1, 1) := by decide +kernel
theorem dX5_freeCursor_21 : decode cX5_freeCursor 21 = .ok (.ireturn, 1) := by decide +kernel
theorem dX5_freeCursor_22 : decode cX5_freeCursor 22 = .ok (.iinc 1 1, 3) := by decide +kernel
theorem dX5_freeCursor_25 : decode cX5_freeCursor 25 = .ok (.goto (-23), 3) := by decide +kernel
theorem dX5_freeCursor_28 : decode cX5_freeCursor 28 = .ok (.iconst (-1), 1) := by decide +kernel
theorem dX5_freeCursor_29 : decode cX5_freeCursor 29 = .ok (.ireturn, 1) := by decide +kernel
theorem dX5_countCursors_0 : decode cX5_countCursors 0 = .ok (.iconst 0, 1) := by decide +kernel
theorem dX5_countCursors_1 : decode cX5_countCursors 1 = .ok (.istore_n 1, 1) := by decide +kernel
theorem dX5_countCursors_2 : decode cX5_countCursors 2 = .ok (.iconst 0, 1) := by decide +kernel
theorem dX5_countCursors_3 : decode cX5_countCursors 3 = .ok (.istore_n 2, 1) := by decide +kernel
theorem dX5_countCursors_4 : decode cX5_countCursors 4 = .ok (.iload_n 2, 1) := by decide +kernel
theorem dX5_countCursors_5 : decode cX5_countCursors 5 = .ok (.bipush 6, 2) := by decide +kernel
theorem dX5_countCursors_7 : decode cX5_countCursors 7 = .ok (.if_icmp .ge 29, 3) := by decide +kernel
theorem dX5_countCursors_10 : decode cX5_countCursors 10 = .ok (.iload_n 1, 1) := by decide +kernel
theorem dX5_countCursors_11 : decode cX5_countCursors 11 = .ok (.aload_n 0, 1) := by decide +kernel
theorem dX5_countCursors_12 : decode cX5_countCursors 12 = .ok (.getfield 19, 3) := by decide +kernel
theorem dX5_countCursors_15 : decode cX5_countCursors 15 = .ok (.iload_n 2, 1) := by decide +kernel
theorem dX5_countCursors_16 : decode cX5_countCursors 16 = .ok (.aaload, 1) := by decide +kernel
theorem dX5_countCursors_17 : decode cX5_countCursors 17 = .ok (.getfield 48, 3) := by decide +kernel
theorem dX5_countCursors_20 : decode cX5_countCursors 20 = .ok (.ifCond .eq 7, 3) := by decide +kernel
theorem dX5_countCursors_23 : decode cX5_countCursors 23 = .ok (.iconst 1, 1) := by decide +kernel
theorem dX5_countCursors_24 : decode cX5_countCursors 24 = .ok (.goto 4, 3) := by decide +kernel
theorem dX5_countCursors_27 : decode cX5_countCursors 27 = .ok (.iconst 0, 1) := by decide +kernel
theorem dX5_countCursors_28 : decode cX5_countCursors 28 = .ok (.iadd, 1) := by decide +kernel
theorem dX5_countCursors_29 : decode cX5_countCursors 29 = .ok (.istore_n 1, 1) := by decide +kernel
theorem dX5_countCursors_30 : decode cX5_countCursors 30 = .ok (.iinc 2 1, 3) := by decide +kernel
theorem dX5_countCursors_33 : decode cX5_countCursors 33 = .ok (.goto (-29), 3) := by decide +kernel
theorem dX5_countCursors_36 : decode cX5_countCursors 36 = .ok (.iload_n 1, 1) := by decide +kernel
theorem dX5_countCursors_37 : decode cX5_countCursors 37 = .ok (.ireturn, 1) := by decide +kernel
theorem dX5_countOpenCursors_0 : decode cX5_countOpenCursors 0 = .ok (.iconst 0, 1) := by decide +kernel
theorem dX5_countOpenCursors_1 : decode cX5_countOpenCursors 1 = .ok (.istore_n 2, 1) := by decide +kernel
theorem dX5_countOpenCursors_2 : decode cX5_countOpenCursors 2 = .ok (.iconst 0, 1) := by decide +kernel
theorem dX5_countOpenCursors_3 : decode cX5_countOpenCursors 3 = .ok (.istore_n 3, 1) := by decide +kernel
theorem dX5_countOpenCursors_4 : decode cX5_countOpenCursors 4 = .ok (.iload_n 3, 1) := by decide +kernel
theorem dX5_countOpenCursors_5 : decode cX5_countOpenCursors 5 = .ok (.bipush 6, 2) := by decide +kernel
theorem dX5_countOpenCursors_7 : decode cX5_countOpenCursors 7 = .ok (.if_icmp .ge 30, 3) := by decide +kernel
theorem dX5_countOpenCursors_10 : decode cX5_countOpenCursors 10 = .ok (.iload_n 2, 1) := by decide +kernel
theorem dX5_countOpenCursors_11 : decode cX5_countOpenCursors 11 = .ok (.aload_n 0, 1) := by decide +kernel
theorem dX5_countOpenCursors_12 : decode cX5_countOpenCursors 12 = .ok (.getfield 19, 3) := by decide +kernel
theorem dX5_countOpenCursors_15 : decode cX5_countOpenCursors 15 = .ok (.iload_n 3, 1) := by decide +kernel
theorem dX5_countOpenCursors_16 : decode cX5_countOpenCursors 16 = .ok (.aaload, 1) := by decide +kernel
theorem dX5_countOpenCursors_17 : decode cX5_countOpenCursors 17 = .ok (.iload_n 1, 1) := by decide +kernel
theorem dX5_countOpenCursors_18 : decode cX5_countOpenCursors 18 = .ok (.invokevirtual 117, 3) := by decide +kernel
theorem dX5_countOpenCursors_21 : decode cX5_countOpenCursors 21 = .ok (.ifCond .eq 7, 3) := by decide +kernel
theorem dX5_countOpenCursors_24 : decode cX5_countOpenCursors 24 = .ok (.iconst 1, 1) := by decide +kernel
theorem dX5_countOpenCursors_25 : decode cX5_countOpenCursors 25 = .ok (.goto 4, 3) := by decide +kernel
theorem dX5_countOpenCursors_28 : decode cX5_countOpenCursors 28 = .ok (.iconst 0, 1) := by decide +kernel
theorem dX5_countOpenCursors_29 : decode cX5_countOpenCursors 29 = .ok (.iadd, 1) := by decide +kernel
theorem dX5_countOpenCursors_30 : decode cX5_countOpenCursors 30 = .ok (.istore_n 2, 1) := by decide +kernel
theorem dX5_countOpenCursors_31 : decode cX5_countOpenCursors 31 = .ok (.iinc 3 1, 3) := by decide +kernel
theorem dX5_countOpenCursors_34 : decode cX5_countOpenCursors 34 = .ok (.goto (-30), 3) := by decide +kernel
theorem dX5_countOpenCursors_37 : decode cX5_countOpenCursors 37 = .ok (.iload_n 2, 1) := by decide +kernel
theorem dX5_countOpenCursors_38 : decode cX5_countOpenCursors 38 = .ok (.ireturn, 1) := by decide +kernel
theorem dX7_stampAt_0 : decode cX7_stampAt 0 = .ok (.aload_n 0, 1) := by decide +kernel
theorem dX7_stampAt_1 : decode cX7_stampAt 1 = .ok (.getfield 18, 3) := by decide +kernel
theorem dX7_stampAt_4 : decode cX7_stampAt 4 = .ok (.aload_n 0, 1) := by decide +kernel
theorem dX7_stampAt_5 : decode cX7_stampAt 5 = .ok (.getfield 9, 3) := by decide +kernel
theorem dX7_stampAt_8 : decode cX7_stampAt 8 = .ok (.iload_n 1, 1) := by decide +kernel
theorem dX7_stampAt_9 : decode cX7_stampAt 9 = .ok (.iaload, 1) := by decide +kernel
theorem dX7_stampAt_10 : decode cX7_stampAt 10 = .ok (.iaload, 1) := by decide +kernel
theorem dX7_stampAt_11 : decode cX7_stampAt 11 = .ok (.ireturn, 1) := by decide +kernel
theorem dX5_countAhead_0 : decode cX5_countAhead 0 = .ok (.iconst 0, 1) := by decide +kernel
theorem dX5_countAhead_1 : decode cX5_countAhead 1 = .ok (.istore_n 2, 1) := by decide +kernel
theorem dX5_countAhead_2 : decode cX5_countAhead 2 = .ok (.aload_n 0, 1) := by decide +kernel
theorem dX5_countAhead_3 : decode cX5_countAhead 3 = .ok (.getfield 11, 3) := by decide +kernel
theorem dX5_countAhead_6 : decode cX5_countAhead 6 = .ok (.aload_n 1, 1) := by decide +kernel
theorem dX5_countAhead_7 : decode cX5_countAhead 7 = .ok (.getfield 139, 3) := by decide +kernel
theorem dX5_countAhead_10 : decode cX5_countAhead 10 = .ok (.aaload, 1) := by decide +kernel
theorem dX5_countAhead_11 : decode cX5_countAhead 11 = .ok (.astore_n 3, 1) := by decide +kernel
theorem dX5_countAhead_12 : decode cX5_countAhead 12 = .ok (.aload_n 1, 1) := by decide +kernel
theorem dX5_countAhead_13 : decode cX5_countAhead 13 = .ok (.getfield 120, 3) := by decide +kernel
theorem dX5_countAhead_16 : decode cX5_countAhead 16 = .ok (.istore 4, 2) := by decide +kernel
theorem dX5_countAhead_18 : decode cX5_countAhead 18 = .ok (.aload_n 1, 1) := by decide +kernel
theorem dX5_countAhead_19 : decode cX5_countAhead 19 = .ok (.getfield 52, 3) := by decide +kernel
theorem dX5_countAhead_22 : decode cX5_countAhead 22 = .ok (.ifCond .eq 39, 3) := by decide +kernel
theorem dX5_countAhead_25 : decode cX5_countAhead 25 = .ok (.iload 4, 2) := by decide +kernel
theorem dX5_countAhead_27 : decode cX5_countAhead 27 = .ok (.aload_n 3, 1) := by decide +kernel
theorem dX5_countAhead_28 : decode cX5_countAhead 28 = .ok (.getfield 86, 3) := by decide +kernel
theorem dX5_countAhead_31 : decode cX5_countAhead 31 = .ok (.if_icmp .ge 30, 3) := by decide +kernel
theorem dX5_countAhead_34 : decode cX5_countAhead 34 = .ok (.iload_n 2, 1) := by decide +kernel
theorem dX5_countAhead_35 : decode cX5_countAhead 35 = .ok (.aload_n 1, 1) := by decide +kernel
theorem dX5_countAhead_36 : decode cX5_countAhead 36 = .ok (.aload_n 3, 1) := by decide +kernel
theorem dX5_countAhead_37 : decode cX5_countAhead 37 = .ok (.iload 4, 2) := by decide +kernel
theorem dX5_countAhead_39 : decode cX5_countAhead 39 = .ok (.invokevirtual 142, 3) := by decide +kernel
theorem dX5_countAhead_42 : decode cX5_countAhead 42 = .ok (.invokevirtual 145, 3) := by decide +kernel
theorem dX5_countAhead_45 : decode cX5_countAhead 45 = .ok (.ifCond .eq 7, 3) := by decide +kernel
theorem dX5_countAhead_48 : decode cX5_countAhead 48 = .ok (.iconst 1, 1) := by decide +kernel
theorem dX5_countAhead_49 : decode cX5_countAhead 49 = .ok (.goto 4, 3) := by decide +kernel
theorem dX5_countAhead_52 : decode cX5_countAhead 52 = .ok (.iconst 0, 1) := by decide +kernel
theorem dX5_countAhead_53 : decode cX5_countAhead 53 = .ok (.iadd, 1) := by decide +kernel
theorem dX5_countAhead_54 : decode cX5_countAhead 54 = .ok (.istore_n 2, 1) := by decide +kernel
theorem dX5_countAhead_55 : decode cX5_countAhead 55 = .ok (.iinc 4 1, 3) := by decide +kernel
theorem dX5_countAhead_58 : decode cX5_countAhead 58 = .ok (.goto (-40), 3) := by decide +kernel
theorem dX5_countAhead_61 : decode cX5_countAhead 61 = .ok (.iload_n 2, 1) := by decide +kernel
theorem dX5_countAhead_62 : decode cX5_countAhead 62 = .ok (.ireturn, 1) := by decide +kernel
theorem dX5_meetNext_0 : decode cX5_meetNext 0 = .ok (.aload_n 0, 1) := by decide +kernel
theorem dX5_meetNext_1 : decode cX5_meetNext 1 = .ok (.getfield 11, 3) := by decide +kernel
theorem dX5_meetNext_4 : decode cX5_meetNext 4 = .ok (.aload_n 1, 1) := by decide +kernel
theorem dX5_meetNext_5 : decode cX5_meetNext 5 = .ok (.getfield 139, 3) := by decide +kernel
theorem dX5_meetNext_8 : decode cX5_meetNext 8 = .ok (.aaload, 1) := by decide +kernel
theorem dX5_meetNext_9 : decode cX5_meetNext 9 = .ok (.astore_n 2, 1) := by decide +kernel
theorem dX5_meetNext_10 : decode cX5_meetNext 10 = .ok (.aload_n 1, 1) := by decide +kernel
theorem dX5_meetNext_11 : decode cX5_meetNext 11 = .ok (.getfield 120, 3) := by decide +kernel
theorem dX5_meetNext_14 : decode cX5_meetNext 14 = .ok (.istore_n 3, 1) := by decide +kernel
theorem dX5_meetNext_15 : decode cX5_meetNext 15 = .ok (.iload_n 3, 1) := by decide +kernel
theorem dX5_meetNext_16 : decode cX5_meetNext 16 = .ok (.aload_n 2, 1) := by decide +kernel
theorem dX5_meetNext_17 : decode cX5_meetNext 17 = .ok (.getfield 86, 3) := by decide +kernel
theorem dX5_meetNext_20 : decode cX5_meetNext 20 = .ok (.if_icmp .ge 63, 3) := by decide +kernel
theorem dX5_meetNext_23 : decode cX5_meetNext 23 = .ok (.aload_n 1, 1) := by decide +kernel
theorem dX5_meetNext_24 : decode cX5_meetNext 24 = .ok (.iload_n 3, 1) := by decide +kernel
theorem dX5_meetNext_25 : decode cX5_meetNext 25 = .ok (.iconst 1, 1) := by decide +kernel
theorem dX5_meetNext_26 : decode cX5_meetNext 26 = .ok (.iadd, 1) := by decide +kernel
theorem dX5_meetNext_27 : decode cX5_meetNext 27 = .ok (.putfield 120, 3) := by decide +kernel
theorem dX5_meetNext_30 : decode cX5_meetNext 30 = .ok (.aload_n 0, 1) := by decide +kernel
theorem dX5_meetNext_31 : decode cX5_meetNext 31 = .ok (.dup, 1) := by decide +kernel
theorem dX5_meetNext_32 : decode cX5_meetNext 32 = .ok (.getfield 45, 3) := by decide +kernel
theorem dX5_meetNext_35 : decode cX5_meetNext 35 = .ok (.iconst 1, 1) := by decide +kernel
theorem dX5_meetNext_36 : decode cX5_meetNext 36 = .ok (.iadd, 1) := by decide +kernel
theorem dX5_meetNext_37 : decode cX5_meetNext 37 = .ok (.putfield 45, 3) := by decide +kernel
theorem dX5_meetNext_40 : decode cX5_meetNext 40 = .ok (.aload_n 1, 1) := by decide +kernel
theorem dX5_meetNext_41 : decode cX5_meetNext 41 = .ok (.aload_n 2, 1) := by decide +kernel
theorem dX5_meetNext_42 : decode cX5_meetNext 42 = .ok (.iload_n 3, 1) := by decide +kernel
theorem dX5_meetNext_43 : decode cX5_meetNext 43 = .ok (.invokevirtual 142, 3) := by decide +kernel
theorem dX5_meetNext_46 : decode cX5_meetNext 46 = .ok (.invokevirtual 145, 3) := by decide +kernel
theorem dX5_meetNext_49 : decode cX5_meetNext 49 = .ok (.ifCond .eq 28, 3) := by decide +kernel
theorem dX5_meetNext_52 : decode cX5_meetNext 52 = .ok (.aload_n 1, 1) := by decide +kernel
theorem dX5_meetNext_53 : decode cX5_meetNext 53 = .ok (.dup, 1) := by decide +kernel
theorem dX5_meetNext_54 : decode cX5_meetNext 54 = .ok (.getfield 148, 3) := by decide +kernel
theorem dX5_meetNext_57 : decode cX5_meetNext 57 = .ok (.iconst 1, 1) := by decide +kernel
theorem dX5_meetNext_58 : decode cX5_meetNext 58 = .ok (.iadd, 1) := by decide +kernel
theorem dX5_meetNext_59 : decode cX5_meetNext 59 = .ok (.putfield 148, 3) := by decide +kernel
theorem dX5_meetNext_62 : decode cX5_meetNext 62 = .ok (.aload_n 1, 1) := by decide +kernel
theorem dX5_meetNext_63 : decode cX5_meetNext 63 = .ok (.aload_n 2, 1) := by decide +kernel
theorem dX5_meetNext_64 : decode cX5_meetNext 64 = .ok (.getfield 123, 3) := by decide +kernel
theorem dX5_meetNext_67 : decode cX5_meetNext 67 = .ok (.iload_n 3, 1) := by decide +kernel
theorem dX5_meetNext_68 : decode cX5_meetNext 68 = .ok (.iaload, 1) := by decide +kernel
theorem dX5_meetNext_69 : decode cX5_meetNext 69 = .ok (.putfield 151, 3) := by decide +kernel
theorem dX5_meetNext_72 : decode cX5_meetNext 72 = .ok (.aload_n 1, 1) := by decide +kernel
theorem dX5_meetNext_73 : decode cX5_meetNext 73 = .ok (.getfield 151, 3) := by decide +kernel
theorem dX5_meetNext_76 : decode cX5_meetNext 76 = .ok (.ireturn, 1) := by decide +kernel
theorem dX5_meetNext_77 : decode cX5_meetNext 77 = .ok (.iinc 3 1, 3) := by decide +kernel
theorem dX5_meetNext_80 : decode cX5_meetNext 80 = .ok (.goto (-65), 3) := by decide +kernel
theorem dX5_meetNext_83 : decode cX5_meetNext 83 = .ok (.aload_n 1, 1) := by decide +kernel
theorem dX5_meetNext_84 : decode cX5_meetNext 84 = .ok (.iconst 0, 1) := by decide +kernel
theorem dX5_meetNext_85 : decode cX5_meetNext 85 = .ok (.putfield 52, 3) := by decide +kernel
theorem dX5_meetNext_88 : decode cX5_meetNext 88 = .ok (.iconst (-1), 1) := by decide +kernel
theorem dX5_meetNext_89 : decode cX5_meetNext 89 = .ok (.ireturn, 1) := by decide +kernel
theorem dX7_bits_0 : decode cX7_bits 0 = .ok (.lconst 0, 1) := by decide +kernel
theorem dX7_bits_1 : decode cX7_bits 1 = .ok (.lstore_n 1, 1) := by decide +kernel
theorem dX7_bits_2 : decode cX7_bits 2 = .ok (.iconst 0, 1) := by decide +kernel
theorem dX7_bits_3 : decode cX7_bits 3 = .ok (.istore_n 3, 1) := by decide +kernel
theorem dX7_bits_4 : decode cX7_bits 4 = .ok (.iload_n 3, 1) := by decide +kernel
theorem dX7_bits_5 : decode cX7_bits 5 = .ok (.aload_n 0, 1) := by decide +kernel
theorem dX7_bits_6 : decode cX7_bits 6 = .ok (.getfield 34, 3) := by decide +kernel
theorem dX7_bits_9 : decode cX7_bits 9 = .ok (.if_icmp .ge 20, 3) := by decide +kernel
theorem dX7_bits_12 : decode cX7_bits 12 = .ok (.lload_n 1, 1) := by decide +kernel
theorem dX7_bits_13 : decode cX7_bits 13 = .ok (.lconst 1, 1) := by decide +kernel
theorem dX7_bits_14 : decode cX7_bits 14 = .ok (.aload_n 0, 1) := by decide +kernel
theorem dX7_bits_15 : decode cX7_bits 15 = .ok (.getfield 9, 3) := by decide +kernel
theorem dX7_bits_18 : decode cX7_bits 18 = .ok (.iload_n 3, 1) := by decide +kernel
theorem dX7_bits_19 : decode cX7_bits 19 = .ok (.iaload, 1) := by decide +kernel
theorem dX7_bits_20 : decode cX7_bits 20 = .ok (.lshl, 1) := by decide +kernel
theorem dX7_bits_21 : decode cX7_bits 21 = .ok (.lor, 1) := by decide +kernel
theorem dX7_bits_22 : decode cX7_bits 22 = .ok (.lstore_n 1, 1) := by decide +kernel
theorem dX7_bits_23 : decode cX7_bits 23 = .ok (.iinc 3 1, 3) := by decide +kernel
theorem dX7_bits_26 : decode cX7_bits 26 = .ok (.goto (-22), 3) := by decide +kernel
theorem dX7_bits_29 : decode cX7_bits 29 = .ok (.lload_n 1, 1) := by decide +kernel
theorem dX7_bits_30 : decode cX7_bits 30 = .ok (.lreturn, 1) := by decide +kernel
theorem dX8_init_0 : decode cX8_init 0 = .ok (.aload_n 0, 1) := by decide +kernel
theorem dX8_init_1 : decode cX8_init 1 = .ok (.invokespecial 3, 3) := by decide +kernel
theorem dX8_init_4 : decode cX8_init 4 = .ok (.aload_n 0, 1) := by decide +kernel
theorem dX8_init_5 : decode cX8_init 5 = .ok (.bipush 10, 2) := by decide +kernel
theorem dX8_init_7 : decode cX8_init 7 = .ok (.anewarray 9, 3) := by decide +kernel
theorem dX8_init_10 : decode cX8_init 10 = .ok (.putfield 11, 3) := by decide +kernel
theorem dX8_init_13 : decode cX8_init 13 = .ok (.return_, 1) := by decide +kernel
theorem dX8_remember_0 : decode cX8_remember 0 = .ok (.aload_n 0, 1) := by decide +kernel
theorem dX8_remember_1 : decode cX8_remember 1 = .ok (.getfield 11, 3) := by decide +kernel
theorem dX8_remember_4 : decode cX8_remember 4 = .ok (.aload_n 0, 1) := by decide +kernel
theorem dX8_remember_5 : decode cX8_remember 5 = .ok (.getfield 17, 3) := by decide +kernel
theorem dX8_remember_8 : decode cX8_remember 8 = .ok (.aaload, 1) := by decide +kernel
theorem dX8_remember_9 : decode cX8_remember 9 = .ok (.ifnonnull 19, 3) := by decide +kernel
theorem dX8_remember_12 : decode cX8_remember 12 = .ok (.aload_n 0, 1) := by decide +kernel
theorem dX8_remember_13 : decode cX8_remember 13 = .ok (.getfield 11, 3) := by decide +kernel
theorem dX8_remember_16 : decode cX8_remember 16 = .ok (.aload_n 0, 1) := by decide +kernel
theorem dX8_remember_17 : decode cX8_remember 17 = .ok (.getfield 17, 3) := by decide +kernel
theorem dX8_remember_20 : decode cX8_remember 20 = .ok (.new 9, 3) := by decide +kernel
theorem dX8_remember_23 : decode cX8_remember 23 = .ok (.dup, 1) := by decide +kernel
theorem dX8_remember_24 : decode cX8_remember 24 = .ok (.invokespecial 21, 3) := by decide +kernel
theorem dX8_remember_27 : decode cX8_remember 27 = .ok (.aastore, 1) := by decide +kernel
theorem dX8_remember_28 : decode cX8_remember 28 = .ok (.aload_n 0, 1) := by decide +kernel
theorem dX8_remember_29 : decode cX8_remember 29 = .ok (.getfield 11, 3) := by decide +kernel
theorem dX8_remember_32 : decode cX8_remember 32 = .ok (.aload_n 0, 1) := by decide +kernel
theorem dX8_remember_33 : decode cX8_remember 33 = .ok (.getfield 17, 3) := by decide +kernel
theorem dX8_remember_36 : decode cX8_remember 36 = .ok (.aaload, 1) := by decide +kernel
theorem dX8_remember_37 : decode cX8_remember 37 = .ok (.aload_n 1, 1) := by decide +kernel
theorem dX8_remember_38 : decode cX8_remember 38 = .ok (.invokevirtual 22, 3) := by decide +kernel
theorem dX8_remember_41 : decode cX8_remember 41 = .ok (.aload_n 0, 1) := by decide +kernel
theorem dX8_remember_42 : decode cX8_remember 42 = .ok (.aload_n 0, 1) := by decide +kernel
theorem dX8_remember_43 : decode cX8_remember 43 = .ok (.getfield 17, 3) := by decide +kernel
theorem dX8_remember_46 : decode cX8_remember 46 = .ok (.iconst 1, 1) := by decide +kernel
theorem dX8_remember_47 : decode cX8_remember 47 = .ok (.iadd, 1) := by decide +kernel
theorem dX8_remember_48 : decode cX8_remember 48 = .ok (.bipush 10, 2) := by decide +kernel
theorem dX8_remember_50 : decode cX8_remember 50 = .ok (.irem, 1) := by decide +kernel
theorem dX8_remember_51 : decode cX8_remember 51 = .ok (.putfield 17, 3) := by decide +kernel
theorem dX8_remember_54 : decode cX8_remember 54 = .ok (.aload_n 0, 1) := by decide +kernel
theorem dX8_remember_55 : decode cX8_remember 55 = .ok (.aload_n 0, 1) := by decide +kernel
theorem dX8_remember_56 : decode cX8_remember 56 = .ok (.getfield 26, 3) := by decide +kernel
theorem dX8_remember_59 : decode cX8_remember 59 = .ok (.iconst 1, 1) := by decide +kernel
theorem dX8_remember_60 : decode cX8_remember 60 = .ok (.iadd, 1) := by decide +kernel
theorem dX8_remember_61 : decode cX8_remember 61 = .ok (.bipush 10, 2) := by decide +kernel
theorem dX8_remember_63 : decode cX8_remember 63 = .ok (.invokestatic 29, 3) := by decide +kernel
theorem dX8_remember_66 : decode cX8_remember 66 = .ok (.putfield 26, 3) := by decide +kernel
theorem dX8_remember_69 : decode cX8_remember 69 = .ok (.return_, 1) := by decide +kernel
theorem dX8_forgetAll_0 : decode cX8_forgetAll 0 = .ok (.aload_n 0, 1) := by decide +kernel
theorem dX8_forgetAll_1 : decode cX8_forgetAll 1 = .ok (.iconst 0, 1) := by decide +kernel
theorem dX8_forgetAll_2 : decode cX8_forgetAll 2 = .ok (.putfield 26, 3) := by decide +kernel
theorem dX8_forgetAll_5 : decode cX8_forgetAll 5 = .ok (.return_, 1) := by decide +kernel
theorem dX9_init_0 : decode cX9_init 0 = .ok (.aload_n 0, 1) := by decide +kernel
theorem dX9_init_1 : decode cX9_init 1 = .ok (.invokespecial 1, 3) := by decide +kernel
theorem dX9_init_4 : decode cX9_init 4 = .ok (.aload_n 0, 1) := by decide +kernel
theorem dX9_init_5 : decode cX9_init 5 = .ok (.new 7, 3) := by decide +kernel
theorem dX9_init_8 : decode cX9_init 8 = .ok (.dup, 1) := by decide +kernel
theorem dX9_init_9 : decode cX9_init 9 = .ok (.invokespecial 9, 3) := by decide +kernel
theorem dX9_init_12 : decode cX9_init 12 = .ok (.putfield 10, 3) := by decide +kernel
theorem dX9_init_15 : decode cX9_init 15 = .ok (.aload_n 0, 1) := by decide +kernel
theorem dX9_init_16 : decode cX9_init 16 = .ok (.new 16, 3) := by decide +kernel
theorem dX9_init_19 : decode cX9_init 19 = .ok (.dup, 1) := by decide +kernel
theorem dX9_init_20 : decode cX9_init 20 = .ok (.invokespecial 18, 3) := by decide +kernel
theorem dX9_init_23 : decode cX9_init 23 = .ok (.putfield 19, 3) := by decide +kernel
theorem dX9_init_26 : decode cX9_init 26 = .ok (.aload_n 0, 1) := by decide +kernel
theorem dX9_init_27 : decode cX9_init 27 = .ok (.new 23, 3) := by decide +kernel
theorem dX9_init_30 : decode cX9_init 30 = .ok (.dup, 1) := by decide +kernel
theorem dX9_init_31 : decode cX9_init 31 = .ok (.invokespecial 25, 3) := by decide +kernel
theorem dX9_init_34 : decode cX9_init 34 = .ok (.putfield 26, 3) := by decide +kernel
theorem dX9_init_37 : decode cX9_init 37 = .ok (.aload_n 0, 1) := by decide +kernel
theorem dX9_init_38 : decode cX9_init 38 = .ok (.new 30, 3) := by decide +kernel
theorem dX9_init_41 : decode cX9_init 41 = .ok (.dup, 1) := by decide +kernel
theorem dX9_init_42 : decode cX9_init 42 = .ok (.invokespecial 32, 3) := by decide +kernel
theorem dX9_init_45 : decode cX9_init 45 = .ok (.putfield 33, 3) := by decide +kernel
theorem dX9_init_48 : decode cX9_init 48 = .ok (.aload_n 0, 1) := by decide +kernel
theorem dX9_init_49 : decode cX9_init 49 = .ok (.new 30, 3) := by decide +kernel
theorem dX9_init_52 : decode cX9_init 52 = .ok (.dup, 1) := by decide +kernel
theorem dX9_init_53 : decode cX9_init 53 = .ok (.invokespecial 32, 3) := by decide +kernel
theorem dX9_init_56 : decode cX9_init 56 = .ok (.putfield 37, 3) := by decide +kernel
theorem dX9_init_59 : decode cX9_init 59 = .ok (.aload_n 0, 1) := by decide +kernel
theorem dX9_init_60 : decode cX9_init 60 = .ok (.iconst (-1), 1) := by decide +kernel
theorem dX9_init_61 : decode cX9_init 61 = .ok (.putfield 40, 3) := by decide +kernel
theorem dX9_init_64 : decode cX9_init 64 = .ok (.aload_n 0, 1) := by decide +kernel
theorem dX9_init_65 : decode cX9_init 65 = .ok (.getfield 33, 3) := by decide +kernel
theorem dX9_init_68 : decode cX9_init 68 = .ok (.iconst 1, 1) := by decide +kernel
theorem dX9_init_69 : decode cX9_init 69 = .ok (.iconst 1, 1) := by decide +kernel
theorem dX9_init_70 : decode cX9_init 70 = .ok (.invokevirtual 44, 3) := by decide +kernel
theorem dX9_init_73 : decode cX9_init 73 = .ok (.return_, 1) := by decide +kernel
theorem dX9_append_0 : decode cX9_append 0 = .ok (.aload_n 0, 1) := by decide +kernel
theorem dX9_append_1 : decode cX9_append 1 = .ok (.getfield 10, 3) := by decide +kernel
theorem dX9_append_4 : decode cX9_append 4 = .ok (.getfield 48, 3) := by decide +kernel
theorem dX9_append_7 : decode cX9_append 7 = .ok (.bipush 20, 2) := by decide +kernel
theorem dX9_append_9 : decode cX9_append 9 = .ok (.iadd, 1) := by decide +kernel
theorem dX9_append_10 : decode cX9_append 10 = .ok (.sipush 600, 3) := by decide +kernel
theorem dX9_append_13 : decode cX9_append 13 = .ok (.if_icmp .le 5, 3) := by decide +kernel
theorem dX9_append_16 : decode cX9_append 16 = .ok (.iconst (-1), 1) := by decide +kernel
theorem dX9_append_17 : decode cX9_append 17 = .ok (.ireturn, 1) := by decide +kernel
theorem dX9_append_18 : decode cX9_append 18 = .ok (.aload_n 0, 1) := by decide +kernel
theorem dX9_append_19 : decode cX9_append 19 = .ok (.getfield 10, 3) := by decide +kernel
theorem dX9_append_22 : decode cX9_append 22 = .ok (.iload_n 1, 1) := by decide +kernel
theorem dX9_append_23 : decode cX9_append 23 = .ok (.invokevirtual 51, 3) := by decide +kernel
theorem dX9_append_26 : decode cX9_append 26 = .ok (.aload_n 0, 1) := by decide +kernel
theorem dX9_append_27 : decode cX9_append 27 = .ok (.getfield 10, 3) := by decide +kernel
theorem dX9_append_30 : decode cX9_append 30 = .ok (.iload_n 2, 1) := by decide +kernel
theorem dX9_append_31 : decode cX9_append 31 = .ok (.invokevirtual 51, 3) := by decide +kernel
theorem dX9_append_34 : decode cX9_append 34 = .ok (.aload_n 0, 1) := by decide +kernel
theorem dX9_append_35 : decode cX9_append 35 = .ok (.getfield 10, 3) := by decide +kernel
theorem dX9_append_38 : decode cX9_append 38 = .ok (.iload_n 3, 1) := by decide +kernel
theorem dX9_append_39 : decode cX9_append 39 = .ok (.invokevirtual 51, 3) := by decide +kernel
theorem dX9_append_42 : decode cX9_append 42 = .ok (.aload_n 0, 1) := by decide +kernel
theorem dX9_append_43 : decode cX9_append 43 = .ok (.getfield 10, 3) := by decide +kernel
theorem dX9_append_46 : decode cX9_append 46 = .ok (.iload 4, 2) := by decide +kernel
theorem dX9_append_48 : decode cX9_append 48 = .ok (.invokevirtual 51, 3) := by decide +kernel
theorem dX9_append_51 : decode cX9_append 51 = .ok (.aload_n 0, 1) := by decide +kernel
theorem dX9_append_52 : decode cX9_append 52 = .ok (.getfield 10, 3) := by decide +kernel
theorem dX9_append_55 : decode cX9_append 55 = .ok (.iload 5, 2) := by decide +kernel
theorem dX9_append_57 : decode cX9_append 57 = .ok (.invokevirtual 51, 3) := by decide +kernel
theorem dX9_append_60 : decode cX9_append 60 = .ok (.aload_n 0, 1) := by decide +kernel
theorem dX9_append_61 : decode cX9_append 61 = .ok (.getfield 10, 3) := by decide +kernel
theorem dX9_append_64 : decode cX9_append 64 = .ok (.getfield 48, 3) := by decide +kernel
theorem dX9_append_67 : decode cX9_append 67 = .ok (.ireturn, 1) := by decide +kernel
theorem dX9_beginWithDraft_0 : decode cX9_beginWithDraft 0 = .ok (.aload_n 0, 1) := by decide +kernel
theorem dX9_beginWithDraft_1 : decode cX9_beginWithDraft 1 = .ok (.getfield 33, 3) := by decide +kernel
theorem dX9_beginWithDraft_4 : decode cX9_beginWithDraft 4 = .ok (.astore_n 1, 1) := by decide +kernel
theorem dX9_beginWithDraft_5 : decode cX9_beginWithDraft 5 = .ok (.aload_n 0, 1) := by decide +kernel
theorem dX9_beginWithDraft_6 : decode cX9_beginWithDraft 6 = .ok (.aload_n 0, 1) := by decide +kernel
theorem dX9_beginWithDraft_7 : decode cX9_beginWithDraft 7 = .ok (.getfield 37, 3) := by decide +kernel
theorem dX9_beginWithDraft_10 : decode cX9_beginWithDraft 10 = .ok (.putfield 33, 3) := by decide +kernel
theorem dX9_beginWithDraft_13 : decode cX9_beginWithDraft 13 = .ok (.aload_n 0, 1) := by decide +kernel
theorem dX9_beginWithDraft_14 : decode cX9_beginWithDraft 14 = .ok (.aload_n 1, 1) := by decide +kernel
theorem dX9_beginWithDraft_15 : decode cX9_beginWithDraft 15 = .ok (.putfield 37, 3) := by decide +kernel
theorem dX9_beginWithDraft_18 : decode cX9_beginWithDraft 18 = .ok (.aload_n 0, 1) := by decide +kernel
theorem dX9_beginWithDraft_19 : decode cX9_beginWithDraft 19 = .ok (.getfield 19, 3) := by decide +kernel
theorem dX9_beginWithDraft_22 : decode cX9_beginWithDraft 22 = .ok (.invokevirtual 78, 3) := by decide +kernel
theorem dX9_beginWithDraft_25 : decode cX9_beginWithDraft 25 = .ok (.aload_n 0, 1) := by decide +kernel
theorem dX9_beginWithDraft_26 : decode cX9_beginWithDraft 26 = .ok (.getfield 26, 3) := by decide +kernel
theorem dX9_beginWithDraft_29 : decode cX9_beginWithDraft 29 = .ok (.invokevirtual 81, 3) := by decide +kernel
theorem dX9_beginWithDraft_32 : decode cX9_beginWithDraft 32 = .ok (.return_, 1) := by decide +kernel
theorem dX9_parse_0 : decode cX9_parse 0 = .ok (.iload_n 1, 1) := by decide +kernel
theorem dX9_parse_1 : decode cX9_parse 1 = .ok (.ifCond .lt 14, 3) := by decide +kernel
theorem dX9_parse_4 : decode cX9_parse 4 = .ok (.iload_n 1, 1) := by decide +kernel
theorem dX9_parse_5 : decode cX9_parse 5 = .ok (.aload_n 0, 1) := by decide +kernel
theorem dX9_parse_6 : decode cX9_parse 6 = .ok (.getfield 10, 3) := by decide +kernel
theorem dX9_parse_9 : decode cX9_parse 9 = .ok (.getfield 48, 3) := by decide +kernel
theorem dX9_parse_12 : decode cX9_parse 12 = .ok (.if_icmp .le 13, 3) := by decide +kernel
theorem dX9_parse_15 : decode cX9_parse 15 = .ok (.new 55, 3) := by decide +kernel
theorem dX9_parse_18 : decode cX9_parse 18 = .ok (.dup, 1) := by decide +kernel
theorem dX9_parse_19 : decode cX9_parse 19 = .ok (.ldc 57, 2) := by decide +kernel
theorem dX9_parse_21 : decode cX9_parse 21 = .ok (.invokespecial 59, 3) := by decide +kernel
theorem dX9_parse_24 : decode cX9_parse 24 = .ok (.athrow, 1) := by decide +kernel
theorem dX9_parse_25 : decode cX9_parse 25 = .ok (.new 62, 3) := by decide +kernel
theorem dX9_parse_28 : decode cX9_parse 28 = .ok (.dup, 1) := by decide +kernel
theorem dX9_parse_29 : decode cX9_parse 29 = .ok (.aload_n 0, 1) := by decide +kernel
theorem dX9_parse_30 : decode cX9_parse 30 = .ok (.getfield 10, 3) := by decide +kernel
theorem dX9_parse_33 : decode cX9_parse 33 = .ok (.iload_n 1, 1) := by decide +kernel
theorem dX9_parse_34 : decode cX9_parse 34 = .ok (.aload_n 0, 1) := by decide +kernel
theorem dX9_parse_35 : decode cX9_parse 35 = .ok (.getfield 37, 3) := by decide +kernel
theorem dX9_parse_38 : decode cX9_parse 38 = .ok (.invokespecial 64, 3) := by decide +kernel
theorem dX9_parse_41 : decode cX9_parse 41 = .ok (.astore_n 2, 1) := by decide +kernel
theorem dX9_parse_42 : decode cX9_parse 42 = .ok (.aload_n 2, 1) := by decide +kernel
theorem dX9_parse_43 : decode cX9_parse 43 = .ok (.invokevirtual 67, 3) := by decide +kernel
theorem dX9_parse_46 : decode cX9_parse 46 = .ok (.istore_n 3, 1) := by decide +kernel
theorem dX9_parse_47 : decode cX9_parse 47 = .ok (.aload_n 0, 1) := by decide +kernel
theorem dX9_parse_48 : decode cX9_parse 48 = .ok (.getfield 10, 3) := by decide +kernel
theorem dX9_parse_51 : decode cX9_parse 51 = .ok (.iconst 0, 1) := by decide +kernel
theorem dX9_parse_52 : decode cX9_parse 52 = .ok (.putfield 48, 3) := by decide +kernel
theorem dX9_parse_55 : decode cX9_parse 55 = .ok (.aload_n 0, 1) := by decide +kernel
theorem dX9_parse_56 : decode cX9_parse 56 = .ok (.aload_n 2, 1) := by decide +kernel
theorem dX9_parse_57 : decode cX9_parse 57 = .ok (.getfield 71, 3) := by decide +kernel
theorem dX9_parse_60 : decode cX9_parse 60 = .ok (.putfield 40, 3) := by decide +kernel
theorem dX9_parse_63 : decode cX9_parse 63 = .ok (.iload_n 3, 1) := by decide +kernel
theorem dX9_parse_64 : decode cX9_parse 64 = .ok (.ifCond .eq 7, 3) := by decide +kernel
theorem dX9_parse_67 : decode cX9_parse 67 = .ok (.aload_n 0, 1) := by decide +kernel
theorem dX9_parse_68 : decode cX9_parse 68 = .ok (.invokevirtual 72, 3) := by decide +kernel
theorem dX9_parse_71 : decode cX9_parse 71 = .ok (.aload_n 2, 1) := by decide +kernel
theorem dX9_parse_72 : decode cX9_parse 72 = .ok (.getfield 75, 3) := by decide +kernel
theorem dX9_parse_75 : decode cX9_parse 75 = .ok (.ireturn, 1) := by decide +kernel
theorem dX9_size_0 : decode cX9_size 0 = .ok (.iload_n 1, 1) := by decide +kernel
theorem dX9_size_1 : decode cX9_size 1 = .ok (.tableswitch 111 0 7 #[47, 55, 63, 71, 79, 87, 95, 103], 47) := by decide +kernel
theorem dX9_size_48 : decode cX9_size 48 = .ok (.aload_n 0, 1) := by decide +kernel
theorem dX9_size_49 : decode cX9_size 49 = .ok (.getfield 33, 3) := by decide +kernel
theorem dX9_size_52 : decode cX9_size 52 = .ok (.getfield 84, 3) := by decide +kernel
theorem dX9_size_55 : decode cX9_size 55 = .ok (.ireturn, 1) := by decide +kernel
theorem dX9_size_56 : decode cX9_size 56 = .ok (.aload_n 0, 1) := by decide +kernel
theorem dX9_size_57 : decode cX9_size 57 = .ok (.getfield 33, 3) := by decide +kernel
theorem dX9_size_60 : decode cX9_size 60 = .ok (.getfield 87, 3) := by decide +kernel
theorem dX9_size_63 : decode cX9_size 63 = .ok (.ireturn, 1) := by decide +kernel
theorem dX9_size_64 : decode cX9_size 64 = .ok (.aload_n 0, 1) := by decide +kernel
theorem dX9_size_65 : decode cX9_size 65 = .ok (.getfield 33, 3) := by decide +kernel
theorem dX9_size_68 : decode cX9_size 68 = .ok (.getfield 90, 3) := by decide +kernel
theorem dX9_size_71 : decode cX9_size 71 = .ok (.ireturn, 1) := by decide +kernel
theorem dX9_size_72 : decode cX9_size 72 = .ok (.aload_n 0, 1) := by decide +kernel
theorem dX9_size_73 : decode cX9_size 73 = .ok (.getfield 33, 3) := by decide +kernel
theorem dX9_size_76 : decode cX9_size 76 = .ok (.getfield 93, 3) := by decide +kernel
theorem dX9_size_79 : decode cX9_size 79 = .ok (.ireturn, 1) := by decide +kernel
theorem dX9_size_80 : decode cX9_size 80 = .ok (.aload_n 0, 1) := by decide +kernel
theorem dX9_size_81 : decode cX9_size 81 = .ok (.getfield 33, 3) := by decide +kernel
theorem dX9_size_84 : decode cX9_size 84 = .ok (.getfield 96, 3) := by decide +kernel
theorem dX9_size_87 : decode cX9_size 87 = .ok (.ireturn, 1) := by decide +kernel
theorem dX9_size_88 : decode cX9_size 88 = .ok (.aload_n 0, 1) := by decide +kernel
theorem dX9_size_89 : decode cX9_size 89 = .ok (.getfield 33, 3) := by decide +kernel
theorem dX9_size_92 : decode cX9_size 92 = .ok (.invokevirtual 99, 3) := by decide +kernel
theorem dX9_size_95 : decode cX9_size 95 = .ok (.ireturn, 1) := by decide +kernel
theorem dX9_size_96 : decode cX9_size 96 = .ok (.aload_n 0, 1) := by decide +kernel
theorem dX9_size_97 : decode cX9_size 97 = .ok (.getfield 33, 3) := by decide +kernel
theorem dX9_size_100 : decode cX9_size 100 = .ok (.getfield 103, 3) := by decide +kernel
theorem dX9_size_103 : decode cX9_size 103 = .ok (.ireturn, 1) := by decide +kernel
theorem dX9_size_104 : decode cX9_size 104 = .ok (.aload_n 0, 1) := by decide +kernel
theorem dX9_size_105 : decode cX9_size 105 = .ok (.getfield 19, 3) := by decide +kernel
theorem dX9_size_108 : decode cX9_size 108 = .ok (.getfield 106, 3) := by decide +kernel
theorem dX9_size_111 : decode cX9_size 111 = .ok (.ireturn, 1) := by decide +kernel
theorem dX9_size_112 : decode cX9_size 112 = .ok (.new 55, 3) := by decide +kernel
theorem dX9_size_115 : decode cX9_size 115 = .ok (.dup, 1) := by decide +kernel
theorem dX9_size_116 : decode cX9_size 116 = .ok (.ldc 109, 2) := by decide +kernel
theorem dX9_size_118 : decode cX9_size 118 = .ok (.invokespecial 59, 3) := by decide +kernel
theorem dX9_size_121 : decode cX9_size 121 = .ok (.athrow, 1) := by decide +kernel
theorem dX9_marked_0 : decode cX9_marked 0 = .ok (.iload_n 1, 1) := by decide +kernel
theorem dX9_marked_1 : decode cX9_marked 1 = .ok (.ifCond .lt 26, 3) := by decide +kernel
theorem dX9_marked_4 : decode cX9_marked 4 = .ok (.iload_n 1, 1) := by decide +kernel
theorem dX9_marked_5 : decode cX9_marked 5 = .ok (.aload_n 0, 1) := by decide +kernel
theorem dX9_marked_6 : decode cX9_marked 6 = .ok (.getfield 33, 3) := by decide +kernel
theorem dX9_marked_9 : decode cX9_marked 9 = .ok (.getfield 96, 3) := by decide +kernel
theorem dX9_marked_12 : decode cX9_marked 12 = .ok (.if_icmp .ge 15, 3) := by decide +kernel
theorem dX9_marked_15 : decode cX9_marked 15 = .ok (.aload_n 0, 1) := by decide +kernel
theorem dX9_marked_16 : decode cX9_marked 16 = .ok (.getfield 33, 3) := by decide +kernel
theorem dX9_marked_19 : decode cX9_marked 19 = .ok (.getfield 118, 3) := by decide +kernel
theorem dX9_marked_22 : decode cX9_marked 22 = .ok (.iload_n 1, 1) := by decide +kernel
theorem dX9_marked_23 : decode cX9_marked 23 = .ok (.iaload, 1) := by decide +kernel
theorem dX9_marked_24 : decode cX9_marked 24 = .ok (.goto 4, 3) := by decide +kernel
theorem dX9_marked_27 : decode cX9_marked 27 = .ok (.iconst (-1), 1) := by decide +kernel
theorem dX9_marked_28 : decode cX9_marked 28 = .ok (.ireturn, 1) := by decide +kernel
theorem dX9_checkSet_0 : decode cX9_checkSet 0 = .ok (.iload_n 1, 1) := by decide +kernel
theorem dX9_checkSet_1 : decode cX9_checkSet 1 = .ok (.ifCond .lt 14, 3) := by decide +kernel
theorem dX9_checkSet_4 : decode cX9_checkSet 4 = .ok (.iload_n 1, 1) := by decide +kernel
theorem dX9_checkSet_5 : decode cX9_checkSet 5 = .ok (.aload_n 0, 1) := by decide +kernel
theorem dX9_checkSet_6 : decode cX9_checkSet 6 = .ok (.getfield 33, 3) := by decide +kernel
theorem dX9_checkSet_9 : decode cX9_checkSet 9 = .ok (.getfield 84, 3) := by decide +kernel
theorem dX9_checkSet_12 : decode cX9_checkSet 12 = .ok (.if_icmp .lt 14, 3) := by decide +kernel
theorem dX9_checkSet_15 : decode cX9_checkSet 15 = .ok (.new 320, 3) := by decide +kernel
theorem dX9_checkSet_18 : decode cX9_checkSet 18 = .ok (.dup, 1) := by decide +kernel
theorem dX9_checkSet_19 : decode cX9_checkSet 19 = .ok (.ldc_w 322, 3) := by decide +kernel
theorem dX9_checkSet_22 : decode cX9_checkSet 22 = .ok (.invokespecial 324, 3) := by decide +kernel
theorem dX9_checkSet_25 : decode cX9_checkSet 25 = .ok (.athrow, 1) := by decide +kernel
theorem dX9_checkSet_26 : decode cX9_checkSet 26 = .ok (.return_, 1) := by decide +kernel
theorem dX9_rowsOf_0 : decode cX9_rowsOf 0 = .ok (.aload_n 0, 1) := by decide +kernel
theorem dX9_rowsOf_1 : decode cX9_rowsOf 1 = .ok (.iload_n 1, 1) := by decide +kernel
theorem dX9_rowsOf_2 : decode cX9_rowsOf 2 = .ok (.invokevirtual 247, 3) := by decide +kernel
theorem dX9_rowsOf_5 : decode cX9_rowsOf 5 = .ok (.aload_n 0, 1) := by decide +kernel
theorem dX9_rowsOf_6 : decode cX9_rowsOf 6 = .ok (.getfield 33, 3) := by decide +kernel
theorem dX9_rowsOf_9 : decode cX9_rowsOf 9 = .ok (.getfield 283, 3) := by decide +kernel
theorem dX9_rowsOf_12 : decode cX9_rowsOf 12 = .ok (.iload_n 1, 1) := by decide +kernel
theorem dX9_rowsOf_13 : decode cX9_rowsOf 13 = .ok (.aaload, 1) := by decide +kernel
theorem dX9_rowsOf_14 : decode cX9_rowsOf 14 = .ok (.areturn, 1) := by decide +kernel
theorem dX9_set_0 : decode cX9_set 0 = .ok (.aload_n 0, 1) := by decide +kernel
theorem dX9_set_1 : decode cX9_set 1 = .ok (.iload_n 1, 1) := by decide +kernel
theorem dX9_set_2 : decode cX9_set 2 = .ok (.invokevirtual 122, 3) := by decide +kernel
theorem dX9_set_5 : decode cX9_set 5 = .ok (.astore_n 3, 1) := by decide +kernel
theorem dX9_set_6 : decode cX9_set 6 = .ok (.iload_n 2, 1) := by decide +kernel
theorem dX9_set_7 : decode cX9_set 7 = .ok (.tableswitch 68 0 4 #[33, 38, 43, 51, 59], 33) := by decide +kernel
theorem dX9_set_40 : decode cX9_set 40 = .ok (.aload_n 3, 1) := by decide +kernel
theorem dX9_set_41 : decode cX9_set 41 = .ok (.getfield 126, 3) := by decide +kernel
theorem dX9_set_44 : decode cX9_set 44 = .ok (.ireturn, 1) := by decide +kernel
theorem dX9_set_45 : decode cX9_set 45 = .ok (.aload_n 3, 1) := by decide +kernel
theorem dX9_set_46 : decode cX9_set 46 = .ok (.getfield 131, 3) := by decide +kernel
theorem dX9_set_49 : decode cX9_set 49 = .ok (.ireturn, 1) := by decide +kernel
theorem dX9_set_50 : decode cX9_set 50 = .ok (.aload_n 3, 1) := by decide +kernel
theorem dX9_set_51 : decode cX9_set 51 = .ok (.getfield 134, 3) := by decide +kernel
theorem dX9_set_54 : decode cX9_set 54 = .ok (.getfield 138, 3) := by decide +kernel
theorem dX9_set_57 : decode cX9_set 57 = .ok (.ireturn, 1) := by decide +kernel
theorem dX9_set_58 : decode cX9_set 58 = .ok (.aload_n 3, 1) := by decide +kernel
theorem dX9_set_59 : decode cX9_set 59 = .ok (.getfield 134, 3) := by decide +kernel
theorem dX9_set_62 : decode cX9_set 62 = .ok (.getfield 143, 3) := by decide +kernel
theorem dX9_set_65 : decode cX9_set 65 = .ok (.ireturn, 1) := by decide +kernel
theorem dX9_set_66 : decode cX9_set 66 = .ok (.aload_n 0, 1) := by decide +kernel
theorem dX9_set_67 : decode cX9_set 67 = .ok (.getfield 33, 3) := by decide +kernel
theorem dX9_set_70 : decode cX9_set 70 = .ok (.iload_n 1, 1) := by decide +kernel
theorem dX9_set_71 : decode cX9_set 71 = .ok (.invokevirtual 144, 3) := by decide +kernel
theorem dX9_set_74 : decode cX9_set 74 = .ok (.ireturn, 1) := by decide +kernel
theorem dX9_set_75 : decode cX9_set 75 = .ok (.new 55, 3) := by decide +kernel
theorem dX9_set_78 : decode cX9_set 78 = .ok (.dup, 1) := by decide +kernel
theorem dX9_set_79 : decode cX9_set 79 = .ok (.ldc 109, 2) := by decide +kernel
theorem dX9_set_81 : decode cX9_set 81 = .ok (.invokespecial 59, 3) := by decide +kernel
theorem dX9_set_84 : decode cX9_set 84 = .ok (.athrow, 1) := by decide +kernel
theorem dX9_cell_0 : decode cX9_cell 0 = .ok (.aload_n 0, 1) := by decide +kernel
theorem dX9_cell_1 : decode cX9_cell 1 = .ok (.iload_n 1, 1) := by decide +kernel
theorem dX9_cell_2 : decode cX9_cell 2 = .ok (.invokevirtual 122, 3) := by decide +kernel
theorem dX9_cell_5 : decode cX9_cell 5 = .ok (.astore 4, 2) := by decide +kernel
theorem dX9_cell_7 : decode cX9_cell 7 = .ok (.aload_n 0, 1) := by decide +kernel
theorem dX9_cell_8 : decode cX9_cell 8 = .ok (.getfield 33, 3) := by decide +kernel
theorem dX9_cell_11 : decode cX9_cell 11 = .ok (.iload_n 2, 1) := by decide +kernel
theorem dX9_cell_12 : decode cX9_cell 12 = .ok (.invokevirtual 148, 3) := by decide +kernel
theorem dX9_cell_15 : decode cX9_cell 15 = .ok (.ifCond .ne 13, 3) := by decide +kernel
theorem dX9_cell_18 : decode cX9_cell 18 = .ok (.new 55, 3) := by decide +kernel
theorem dX9_cell_21 : decode cX9_cell 21 = .ok (.dup, 1) := by decide +kernel
theorem dX9_cell_22 : decode cX9_cell 22 = .ok (.ldc 152, 2) := by decide +kernel
theorem dX9_cell_24 : decode cX9_cell 24 = .ok (.invokespecial 59, 3) := by decide +kernel
theorem dX9_cell_27 : decode cX9_cell 27 = .ok (.athrow, 1) := by decide +kernel
theorem dX9_cell_28 : decode cX9_cell 28 = .ok (.iload_n 3, 1) := by decide +kernel
theorem dX9_cell_29 : decode cX9_cell 29 = .ok (.ifCond .eq 13, 3) := by decide +kernel
theorem dX9_cell_32 : decode cX9_cell 32 = .ok (.aload 4, 2) := by decide +kernel
theorem dX9_cell_34 : decode cX9_cell 34 = .ok (.getfield 154, 3) := by decide +kernel
theorem dX9_cell_37 : decode cX9_cell 37 = .ok (.iload_n 2, 1) := by decide +kernel
theorem dX9_cell_38 : decode cX9_cell 38 = .ok (.iaload, 1) := by decide +kernel
theorem dX9_cell_39 : decode cX9_cell 39 = .ok (.goto 10, 3) := by decide +kernel
theorem dX9_cell_42 : decode cX9_cell 42 = .ok (.aload 4, 2) := by decide +kernel
theorem dX9_cell_44 : decode cX9_cell 44 = .ok (.getfield 157, 3) := by decide +kernel
theorem dX9_cell_47 : decode cX9_cell 47 = .ok (.iload_n 2, 1) := by decide +kernel
theorem dX9_cell_48 : decode cX9_cell 48 = .ok (.iaload, 1) := by decide +kernel
theorem dX9_cell_49 : decode cX9_cell 49 = .ok (.ireturn, 1) := by decide +kernel
theorem dX9_place_0 : decode cX9_place 0 = .ok (.aload_n 0, 1) := by decide +kernel
theorem dX9_place_1 : decode cX9_place 1 = .ok (.iload_n 1, 1) := by decide +kernel
theorem dX9_place_2 : decode cX9_place 2 = .ok (.invokevirtual 122, 3) := by decide +kernel
theorem dX9_place_5 : decode cX9_place 5 = .ok (.iload_n 2, 1) := by decide +kernel
theorem dX9_place_6 : decode cX9_place 6 = .ok (.invokevirtual 160, 3) := by decide +kernel
theorem dX9_place_9 : decode cX9_place 9 = .ok (.ireturn, 1) := by decide +kernel
theorem dX9_stampOf_0 : decode cX9_stampOf 0 = .ok (.aload_n 0, 1) := by decide +kernel
theorem dX9_stampOf_1 : decode cX9_stampOf 1 = .ok (.iload_n 1, 1) := by decide +kernel
theorem dX9_stampOf_2 : decode cX9_stampOf 2 = .ok (.invokevirtual 122, 3) := by decide +kernel
theorem dX9_stampOf_5 : decode cX9_stampOf 5 = .ok (.astore_n 3, 1) := by decide +kernel
theorem dX9_stampOf_6 : decode cX9_stampOf 6 = .ok (.aload_n 3, 1) := by decide +kernel
theorem dX9_stampOf_7 : decode cX9_stampOf 7 = .ok (.iload_n 2, 1) := by decide +kernel
theorem dX9_stampOf_8 : decode cX9_stampOf 8 = .ok (.invokevirtual 163, 3) := by decide +kernel
theorem dX9_stampOf_11 : decode cX9_stampOf 11 = .ok (.ifCond .eq 12, 3) := by decide +kernel
theorem dX9_stampOf_14 : decode cX9_stampOf 14 = .ok (.aload_n 3, 1) := by decide +kernel
theorem dX9_stampOf_15 : decode cX9_stampOf 15 = .ok (.getfield 166, 3) := by decide +kernel
theorem dX9_stampOf_18 : decode cX9_stampOf 18 = .ok (.iload_n 2, 1) := by decide +kernel
theorem dX9_stampOf_19 : decode cX9_stampOf 19 = .ok (.iaload, 1) := by decide +kernel
theorem dX9_stampOf_20 : decode cX9_stampOf 20 = .ok (.goto 4, 3) := by decide +kernel
theorem dX9_stampOf_23 : decode cX9_stampOf 23 = .ok (.iconst (-1), 1) := by decide +kernel
theorem dX9_stampOf_24 : decode cX9_stampOf 24 = .ok (.ireturn, 1) := by decide +kernel
theorem dX9_event_0 : decode cX9_event 0 = .ok (.aload_n 0, 1) := by decide +kernel
theorem dX9_event_1 : decode cX9_event 1 = .ok (.iload_n 1, 1) := by decide +kernel
theorem dX9_event_2 : decode cX9_event 2 = .ok (.invokevirtual 122, 3) := by decide +kernel
theorem dX9_event_5 : decode cX9_event 5 = .ok (.getfield 134, 3) := by decide +kernel
theorem dX9_event_8 : decode cX9_event 8 = .ok (.astore 4, 2) := by decide +kernel
theorem dX9_event_10 : decode cX9_event 10 = .ok (.iload_n 3, 1) := by decide +kernel
theorem dX9_event_11 : decode cX9_event 11 = .ok (.ifCond .lt 8, 3) := by decide +kernel
theorem dX9_event_14 : decode cX9_event 14 = .ok (.iload_n 3, 1) := by decide +kernel
theorem dX9_event_15 : decode cX9_event 15 = .ok (.iconst 2, 1) := by decide +kernel
theorem dX9_event_16 : decode cX9_event 16 = .ok (.if_icmp .le 13, 3) := by decide +kernel
theorem dX9_event_19 : decode cX9_event 19 = .ok (.new 55, 3) := by decide +kernel
theorem dX9_event_22 : decode cX9_event 22 = .ok (.dup, 1) := by decide +kernel
theorem dX9_event_23 : decode cX9_event 23 = .ok (.ldc 169, 2) := by decide +kernel
theorem dX9_event_25 : decode cX9_event 25 = .ok (.invokespecial 59, 3) := by decide +kernel
theorem dX9_event_28 : decode cX9_event 28 = .ok (.athrow, 1) := by decide +kernel
theorem dX9_event_29 : decode cX9_event 29 = .ok (.iload_n 2, 1) := by decide +kernel
theorem dX9_event_30 : decode cX9_event 30 = .ok (.ifCond .lt 12, 3) := by decide +kernel
theorem dX9_event_33 : decode cX9_event 33 = .ok (.iload_n 2, 1) := by decide +kernel
theorem dX9_event_34 : decode cX9_event 34 = .ok (.aload 4, 2) := by decide +kernel
theorem dX9_event_36 : decode cX9_event 36 = .ok (.getfield 143, 3) := by decide +kernel
theorem dX9_event_39 : decode cX9_event 39 = .ok (.if_icmp .lt 5, 3) := by decide +kernel
theorem dX9_event_42 : decode cX9_event 42 = .ok (.iconst (-1), 1) := by decide +kernel
theorem dX9_event_43 : decode cX9_event 43 = .ok (.ireturn, 1) := by decide +kernel
theorem dX9_event_44 : decode cX9_event 44 = .ok (.iload_n 3, 1) := by decide +kernel
theorem dX9_event_45 : decode cX9_event 45 = .ok (.ifCond .ne 11, 3) := by decide +kernel
theorem dX9_event_48 : decode cX9_event 48 = .ok (.aload 4, 2) := by decide +kernel
theorem dX9_event_50 : decode cX9_event 50 = .ok (.getfield 171, 3) := by decide +kernel
theorem dX9_event_53 : decode cX9_event 53 = .ok (.iload_n 2, 1) := by decide +kernel
theorem dX9_event_54 : decode cX9_event 54 = .ok (.iaload, 1) := by decide +kernel
theorem dX9_event_55 : decode cX9_event 55 = .ok (.ireturn, 1) := by decide +kernel
theorem dX9_event_56 : decode cX9_event 56 = .ok (.iload_n 3, 1) := by decide +kernel
theorem dX9_event_57 : decode cX9_event 57 = .ok (.iconst 1, 1) := by decide +kernel
theorem dX9_event_58 : decode cX9_event 58 = .ok (.if_icmp .ne 13, 3) := by decide +kernel
theorem dX9_event_61 : decode cX9_event 61 = .ok (.aload 4, 2) := by decide +kernel
theorem dX9_event_63 : decode cX9_event 63 = .ok (.getfield 172, 3) := by decide +kernel
theorem dX9_event_66 : decode cX9_event 66 = .ok (.iload_n 2, 1) := by decide +kernel
theorem dX9_event_67 : decode cX9_event 67 = .ok (.iaload, 1) := by decide +kernel
theorem dX9_event_68 : decode cX9_event 68 = .ok (.goto 10, 3) := by decide +kernel
theorem dX9_event_71 : decode cX9_event 71 = .ok (.aload 4, 2) := by decide +kernel
theorem dX9_event_73 : decode cX9_event 73 = .ok (.getfield 175, 3) := by decide +kernel
theorem dX9_event_76 : decode cX9_event 76 = .ok (.iload_n 2, 1) := by decide +kernel
theorem dX9_event_77 : decode cX9_event 77 = .ok (.iaload, 1) := by decide +kernel
theorem dX9_event_78 : decode cX9_event 78 = .ok (.ireturn, 1) := by decide +kernel
theorem dX9_checkStamp_0 : decode cX9_checkStamp 0 = .ok (.iload_n 2, 1) := by decide +kernel
theorem dX9_checkStamp_1 : decode cX9_checkStamp 1 = .ok (.aload_n 1, 1) := by decide +kernel
theorem dX9_checkStamp_2 : decode cX9_checkStamp 2 = .ok (.getfield 138, 3) := by decide +kernel
theorem dX9_checkStamp_5 : decode cX9_checkStamp 5 = .ok (.if_icmp .lt 14, 3) := by decide +kernel
theorem dX9_checkStamp_8 : decode cX9_checkStamp 8 = .ok (.iload_n 2, 1) := by decide +kernel
theorem dX9_checkStamp_9 : decode cX9_checkStamp 9 = .ok (.aload_n 0, 1) := by decide +kernel
theorem dX9_checkStamp_10 : decode cX9_checkStamp 10 = .ok (.getfield 33, 3) := by decide +kernel
theorem dX9_checkStamp_13 : decode cX9_checkStamp 13 = .ok (.getfield 93, 3) := by decide +kernel
theorem dX9_checkStamp_16 : decode cX9_checkStamp 16 = .ok (.if_icmp .le 14, 3) := by decide +kernel
theorem dX9_checkStamp_19 : decode cX9_checkStamp 19 = .ok (.new 55, 3) := by decide +kernel
theorem dX9_checkStamp_22 : decode cX9_checkStamp 22 = .ok (.dup, 1) := by decide +kernel
theorem dX9_checkStamp_23 : decode cX9_checkStamp 23 = .ok (.ldc_w 329, 3) := by decide +kernel
theorem dX9_checkStamp_26 : decode cX9_checkStamp 26 = .ok (.invokespecial 59, 3) := by decide +kernel
theorem dX9_checkStamp_29 : decode cX9_checkStamp 29 = .ok (.athrow, 1) := by decide +kernel
theorem dX9_checkStamp_30 : decode cX9_checkStamp 30 = .ok (.return_, 1) := by decide +kernel
theorem dX9_at_0 : decode cX9_at 0 = .ok (.aload_n 0, 1) := by decide +kernel
theorem dX9_at_1 : decode cX9_at 1 = .ok (.iload_n 1, 1) := by decide +kernel
theorem dX9_at_2 : decode cX9_at 2 = .ok (.invokevirtual 122, 3) := by decide +kernel
theorem dX9_at_5 : decode cX9_at 5 = .ok (.getfield 134, 3) := by decide +kernel
theorem dX9_at_8 : decode cX9_at 8 = .ok (.astore_n 3, 1) := by decide +kernel
theorem dX9_at_9 : decode cX9_at 9 = .ok (.aload_n 0, 1) := by decide +kernel
theorem dX9_at_10 : decode cX9_at 10 = .ok (.aload_n 3, 1) := by decide +kernel
theorem dX9_at_11 : decode cX9_at 11 = .ok (.iload_n 2, 1) := by decide +kernel
theorem dX9_at_12 : decode cX9_at 12 = .ok (.invokevirtual 178, 3) := by decide +kernel
theorem dX9_at_15 : decode cX9_at 15 = .ok (.aload_n 3, 1) := by decide +kernel
theorem dX9_at_16 : decode cX9_at 16 = .ok (.iload_n 2, 1) := by decide +kernel
theorem dX9_at_17 : decode cX9_at 17 = .ok (.invokevirtual 182, 3) := by decide +kernel
theorem dX9_at_20 : decode cX9_at 20 = .ok (.lreturn, 1) := by decide +kernel
theorem dX9_differs_0 : decode cX9_differs 0 = .ok (.aload_n 0, 1) := by decide +kernel
theorem dX9_differs_1 : decode cX9_differs 1 = .ok (.iload_n 1, 1) := by decide +kernel
theorem dX9_differs_2 : decode cX9_differs 2 = .ok (.invokevirtual 122, 3) := by decide +kernel
theorem dX9_differs_5 : decode cX9_differs 5 = .ok (.getfield 134, 3) := by decide +kernel
theorem dX9_differs_8 : decode cX9_differs 8 = .ok (.astore 5, 2) := by decide +kernel
theorem dX9_differs_10 : decode cX9_differs 10 = .ok (.aload_n 0, 1) := by decide +kernel
theorem dX9_differs_11 : decode cX9_differs 11 = .ok (.aload 5, 2) := by decide +kernel
theorem dX9_differs_13 : decode cX9_differs 13 = .ok (.iload_n 2, 1) := by decide +kernel
theorem dX9_differs_14 : decode cX9_differs 14 = .ok (.invokevirtual 178, 3) := by decide +kernel
theorem dX9_differs_17 : decode cX9_differs 17 = .ok (.aload_n 0, 1) := by decide +kernel
theorem dX9_differs_18 : decode cX9_differs 18 = .ok (.aload 5, 2) := by decide +kernel
theorem dX9_differs_20 : decode cX9_differs 20 = .ok (.iload_n 3, 1) := by decide +kernel
theorem dX9_differs_21 : decode cX9_differs 21 = .ok (.invokevirtual 178, 3) := by decide +kernel
theorem dX9_differs_24 : decode cX9_differs 24 = .ok (.aload 5, 2) := by decide +kernel
theorem dX9_differs_26 : decode cX9_differs 26 = .ok (.iload_n 2, 1) := by decide +kernel
theorem dX9_differs_27 : decode cX9_differs 27 = .ok (.invokevirtual 182, 3) := by decide +kernel
theorem dX9_differs_30 : decode cX9_differs 30 = .ok (.lstore 6, 2) := by decide +kernel
theorem dX9_differs_32 : decode cX9_differs 32 = .ok (.aload 5, 2) := by decide +kernel
theorem dX9_differs_34 : decode cX9_differs 34 = .ok (.iload_n 3, 1) := by decide +kernel
theorem dX9_differs_35 : decode cX9_differs 35 = .ok (.invokevirtual 182, 3) := by decide +kernel
theorem dX9_differs_38 : decode cX9_differs 38 = .ok (.lstore 8, 2) := by decide +kernel
theorem dX9_differs_40 : decode cX9_differs 40 = .ok (.iload 4, 2) := by decide +kernel
theorem dX9_differs_42 : decode cX9_differs 42 = .ok (.ifCond .eq 15, 3) := by decide +kernel
theorem dX9_differs_45 : decode cX9_differs 45 = .ok (.lload 8, 2) := by decide +kernel
theorem dX9_differs_47 : decode cX9_differs 47 = .ok (.lload 6, 2) := by decide +kernel
theorem dX9_differs_49 : decode cX9_differs 49 = .ok (.ldc2_w 186, 3) := by decide +kernel
theorem dX9_differs_52 : decode cX9_differs 52 = .ok (.lxor, 1) := by decide +kernel
theorem dX9_differs_53 : decode cX9_differs 53 = .ok (.land, 1) := by decide +kernel
theorem dX9_differs_54 : decode cX9_differs 54 = .ok (.goto 12, 3) := by decide +kernel
theorem dX9_differs_57 : decode cX9_differs 57 = .ok (.lload 6, 2) := by decide +kernel
theorem dX9_differs_59 : decode cX9_differs 59 = .ok (.lload 8, 2) := by decide +kernel
theorem dX9_differs_61 : decode cX9_differs 61 = .ok (.ldc2_w 186, 3) := by decide +kernel
theorem dX9_differs_64 : decode cX9_differs 64 = .ok (.lxor, 1) := by decide +kernel
theorem dX9_differs_65 : decode cX9_differs 65 = .ok (.land, 1) := by decide +kernel
theorem dX9_differs_66 : decode cX9_differs 66 = .ok (.invokestatic 188, 3) := by decide +kernel
theorem dX9_differs_69 : decode cX9_differs 69 = .ok (.ireturn, 1) := by decide +kernel
theorem dX9_checkNumber_0 : decode cX9_checkNumber 0 = .ok (.aload_n 0, 1) := by decide +kernel
theorem dX9_checkNumber_1 : decode cX9_checkNumber 1 = .ok (.getfield 33, 3) := by decide +kernel
theorem dX9_checkNumber_4 : decode cX9_checkNumber 4 = .ok (.iload_n 1, 1) := by decide +kernel
theorem dX9_checkNumber_5 : decode cX9_checkNumber 5 = .ok (.invokevirtual 148, 3) := by decide +kernel
theorem dX9_checkNumber_8 : decode cX9_checkNumber 8 = .ok (.ifCond .ne 14, 3) := by decide +kernel
theorem dX9_checkNumber_11 : decode cX9_checkNumber 11 = .ok (.new 55, 3) := by decide +kernel
theorem dX9_checkNumber_14 : decode cX9_checkNumber 14 = .ok (.dup, 1) := by decide +kernel
theorem dX9_checkNumber_15 : decode cX9_checkNumber 15 = .ok (.ldc_w 327, 3) := by decide +kernel
theorem dX9_checkNumber_18 : decode cX9_checkNumber 18 = .ok (.invokespecial 59, 3) := by decide +kernel
theorem dX9_checkNumber_21 : decode cX9_checkNumber 21 = .ok (.athrow, 1) := by decide +kernel
theorem dX9_checkNumber_22 : decode cX9_checkNumber 22 = .ok (.return_, 1) := by decide +kernel
theorem dX9_since_0 : decode cX9_since 0 = .ok (.aload_n 0, 1) := by decide +kernel
theorem dX9_since_1 : decode cX9_since 1 = .ok (.iload_n 1, 1) := by decide +kernel
theorem dX9_since_2 : decode cX9_since 2 = .ok (.invokevirtual 122, 3) := by decide +kernel
theorem dX9_since_5 : decode cX9_since 5 = .ok (.getfield 134, 3) := by decide +kernel
theorem dX9_since_8 : decode cX9_since 8 = .ok (.astore_n 3, 1) := by decide +kernel
theorem dX9_since_9 : decode cX9_since 9 = .ok (.aload_n 0, 1) := by decide +kernel
theorem dX9_since_10 : decode cX9_since 10 = .ok (.iload_n 2, 1) := by decide +kernel
theorem dX9_since_11 : decode cX9_since 11 = .ok (.invokevirtual 194, 3) := by decide +kernel
theorem dX9_since_14 : decode cX9_since 14 = .ok (.aload_n 3, 1) := by decide +kernel
theorem dX9_since_15 : decode cX9_since 15 = .ok (.iload_n 2, 1) := by decide +kernel
theorem dX9_since_16 : decode cX9_since 16 = .ok (.invokevirtual 197, 3) := by decide +kernel
theorem dX9_since_19 : decode cX9_since 19 = .ok (.ireturn, 1) := by decide +kernel
theorem dX9_fullest_0 : decode cX9_fullest 0 = .ok (.aload_n 0, 1) := by decide +kernel
theorem dX9_fullest_1 : decode cX9_fullest 1 = .ok (.iload_n 1, 1) := by decide +kernel
theorem dX9_fullest_2 : decode cX9_fullest 2 = .ok (.invokevirtual 122, 3) := by decide +kernel
theorem dX9_fullest_5 : decode cX9_fullest 5 = .ok (.getfield 134, 3) := by decide +kernel
theorem dX9_fullest_8 : decode cX9_fullest 8 = .ok (.invokevirtual 200, 3) := by decide +kernel
theorem dX9_fullest_11 : decode cX9_fullest 11 = .ok (.ireturn, 1) := by decide +kernel
theorem dX9_cursorOf_0 : decode cX9_cursorOf 0 = .ok (.iload_n 1, 1) := by decide +kernel
theorem dX9_cursorOf_1 : decode cX9_cursorOf 1 = .ok (.ifCond .lt 24, 3) := by decide +kernel
theorem dX9_cursorOf_4 : decode cX9_cursorOf 4 = .ok (.iload_n 1, 1) := by decide +kernel
theorem dX9_cursorOf_5 : decode cX9_cursorOf 5 = .ok (.bipush 6, 2) := by decide +kernel
theorem dX9_cursorOf_7 : decode cX9_cursorOf 7 = .ok (.if_icmp .ge 18, 3) := by decide +kernel
theorem dX9_cursorOf_10 : decode cX9_cursorOf 10 = .ok (.aload_n 0, 1) := by decide +kernel
theorem dX9_cursorOf_11 : decode cX9_cursorOf 11 = .ok (.getfield 33, 3) := by decide +kernel
theorem dX9_cursorOf_14 : decode cX9_cursorOf 14 = .ok (.getfield 270, 3) := by decide +kernel
theorem dX9_cursorOf_17 : decode cX9_cursorOf 17 = .ok (.iload_n 1, 1) := by decide +kernel
theorem dX9_cursorOf_18 : decode cX9_cursorOf 18 = .ok (.aaload, 1) := by decide +kernel
theorem dX9_cursorOf_19 : decode cX9_cursorOf 19 = .ok (.getfield 277, 3) := by decide +kernel
theorem dX9_cursorOf_22 : decode cX9_cursorOf 22 = .ok (.ifCond .ne 14, 3) := by decide +kernel
theorem dX9_cursorOf_25 : decode cX9_cursorOf 25 = .ok (.new 320, 3) := by decide +kernel
theorem dX9_cursorOf_28 : decode cX9_cursorOf 28 = .ok (.dup, 1) := by decide +kernel
theorem dX9_cursorOf_29 : decode cX9_cursorOf 29 = .ok (.ldc_w 325, 3) := by decide +kernel
theorem dX9_cursorOf_32 : decode cX9_cursorOf 32 = .ok (.invokespecial 324, 3) := by decide +kernel
theorem dX9_cursorOf_35 : decode cX9_cursorOf 35 = .ok (.athrow, 1) := by decide +kernel
theorem dX9_cursorOf_36 : decode cX9_cursorOf 36 = .ok (.aload_n 0, 1) := by decide +kernel
theorem dX9_cursorOf_37 : decode cX9_cursorOf 37 = .ok (.getfield 33, 3) := by decide +kernel
theorem dX9_cursorOf_40 : decode cX9_cursorOf 40 = .ok (.getfield 270, 3) := by decide +kernel
theorem dX9_cursorOf_43 : decode cX9_cursorOf 43 = .ok (.iload_n 1, 1) := by decide +kernel
theorem dX9_cursorOf_44 : decode cX9_cursorOf 44 = .ok (.aaload, 1) := by decide +kernel
theorem dX9_cursorOf_45 : decode cX9_cursorOf 45 = .ok (.areturn, 1) := by decide +kernel
theorem dX9_cursor_0 : decode cX9_cursor 0 = .ok (.aload_n 0, 1) := by decide +kernel
theorem dX9_cursor_1 : decode cX9_cursor 1 = .ok (.iload_n 1, 1) := by decide +kernel
theorem dX9_cursor_2 : decode cX9_cursor 2 = .ok (.invokevirtual 203, 3) := by decide +kernel
theorem dX9_cursor_5 : decode cX9_cursor 5 = .ok (.astore_n 3, 1) := by decide +kernel
theorem dX9_cursor_6 : decode cX9_cursor 6 = .ok (.iload_n 2, 1) := by decide +kernel
theorem dX9_cursor_7 : decode cX9_cursor 7 = .ok (.tableswitch 92 0 6 #[41, 46, 51, 64, 77, 82, 87], 41) := by decide +kernel
theorem dX9_cursor_48 : decode cX9_cursor 48 = .ok (.aload_n 3, 1) := by decide +kernel
theorem dX9_cursor_49 : decode cX9_cursor 49 = .ok (.getfield 207, 3) := by decide +kernel
theorem dX9_cursor_52 : decode cX9_cursor 52 = .ok (.ireturn, 1) := by decide +kernel
theorem dX9_cursor_53 : decode cX9_cursor 53 = .ok (.aload_n 3, 1) := by decide +kernel
theorem dX9_cursor_54 : decode cX9_cursor 54 = .ok (.getfield 212, 3) := by decide +kernel
theorem dX9_cursor_57 : decode cX9_cursor 57 = .ok (.ireturn, 1) := by decide +kernel
theorem dX9_cursor_58 : decode cX9_cursor 58 = .ok (.aload_n 3, 1) := by decide +kernel
theorem dX9_cursor_59 : decode cX9_cursor 59 = .ok (.getfield 215, 3) := by decide +kernel
theorem dX9_cursor_62 : decode cX9_cursor 62 = .ok (.ifCond .eq 7, 3) := by decide +kernel
theorem dX9_cursor_65 : decode cX9_cursor 65 = .ok (.iconst 1, 1) := by decide +kernel
theorem dX9_cursor_66 : decode cX9_cursor 66 = .ok (.goto 4, 3) := by decide +kernel
theorem dX9_cursor_69 : decode cX9_cursor 69 = .ok (.iconst 0, 1) := by decide +kernel
theorem dX9_cursor_70 : decode cX9_cursor 70 = .ok (.ireturn, 1) := by decide +kernel
theorem dX9_cursor_71 : decode cX9_cursor 71 = .ok (.aload_n 3, 1) := by decide +kernel
theorem dX9_cursor_72 : decode cX9_cursor 72 = .ok (.getfield 219, 3) := by decide +kernel
theorem dX9_cursor_75 : decode cX9_cursor 75 = .ok (.ifCond .eq 7, 3) := by decide +kernel
theorem dX9_cursor_78 : decode cX9_cursor 78 = .ok (.iconst 1, 1) := by decide +kernel
theorem dX9_cursor_79 : decode cX9_cursor 79 = .ok (.goto 4, 3) := by decide +kernel
theorem dX9_cursor_82 : decode cX9_cursor 82 = .ok (.iconst 0, 1) := by decide +kernel
theorem dX9_cursor_83 : decode cX9_cursor 83 = .ok (.ireturn, 1) := by decide +kernel
theorem dX9_cursor_84 : decode cX9_cursor 84 = .ok (.aload_n 3, 1) := by decide +kernel
theorem dX9_cursor_85 : decode cX9_cursor 85 = .ok (.getfield 222, 3) := by decide +kernel
theorem dX9_cursor_88 : decode cX9_cursor 88 = .ok (.ireturn, 1) := by decide +kernel
theorem dX9_cursor_89 : decode cX9_cursor 89 = .ok (.aload_n 3, 1) := by decide +kernel
theorem dX9_cursor_90 : decode cX9_cursor 90 = .ok (.getfield 225, 3) := by decide +kernel
theorem dX9_cursor_93 : decode cX9_cursor 93 = .ok (.ireturn, 1) := by decide +kernel
theorem dX9_cursor_94 : decode cX9_cursor 94 = .ok (.aload_n 3, 1) := by decide +kernel
theorem dX9_cursor_95 : decode cX9_cursor 95 = .ok (.getfield 228, 3) := by decide +kernel
theorem dX9_cursor_98 : decode cX9_cursor 98 = .ok (.ireturn, 1) := by decide +kernel
theorem dX9_cursor_99 : decode cX9_cursor 99 = .ok (.new 55, 3) := by decide +kernel
theorem dX9_cursor_102 : decode cX9_cursor 102 = .ok (.dup, 1) := by decide +kernel
theorem dX9_cursor_103 : decode cX9_cursor 103 = .ok (.ldc 109, 2) := by decide +kernel
theorem dX9_cursor_105 : decode cX9_cursor 105 = .ok (.invokespecial 59, 3) := by decide +kernel
theorem dX9_cursor_108 : decode cX9_cursor 108 = .ok (.athrow, 1) := by decide +kernel
theorem dX9_ahead_0 : decode cX9_ahead 0 = .ok (.aload_n 0, 1) := by decide +kernel
theorem dX9_ahead_1 : decode cX9_ahead 1 = .ok (.getfield 33, 3) := by decide +kernel
theorem dX9_ahead_4 : decode cX9_ahead 4 = .ok (.aload_n 0, 1) := by decide +kernel
theorem dX9_ahead_5 : decode cX9_ahead 5 = .ok (.iload_n 1, 1) := by decide +kernel
theorem dX9_ahead_6 : decode cX9_ahead 6 = .ok (.invokevirtual 203, 3) := by decide +kernel
theorem dX9_ahead_9 : decode cX9_ahead 9 = .ok (.invokevirtual 231, 3) := by decide +kernel
theorem dX9_ahead_12 : decode cX9_ahead 12 = .ok (.ireturn, 1) := by decide +kernel
theorem dX9_common_0 : decode cX9_common 0 = .ok (.aload_n 0, 1) := by decide +kernel
theorem dX9_common_1 : decode cX9_common 1 = .ok (.iload_n 1, 1) := by decide +kernel
theorem dX9_common_2 : decode cX9_common 2 = .ok (.invokevirtual 122, 3) := by decide +kernel
theorem dX9_common_5 : decode cX9_common 5 = .ok (.invokevirtual 235, 3) := by decide +kernel
theorem dX9_common_8 : decode cX9_common 8 = .ok (.lstore_n 3, 1) := by decide +kernel
theorem dX9_common_9 : decode cX9_common 9 = .ok (.lload_n 3, 1) := by decide +kernel
theorem dX9_common_10 : decode cX9_common 10 = .ok (.aload_n 0, 1) := by decide +kernel
theorem dX9_common_11 : decode cX9_common 11 = .ok (.iload_n 2, 1) := by decide +kernel
theorem dX9_common_12 : decode cX9_common 12 = .ok (.invokevirtual 122, 3) := by decide +kernel
theorem dX9_common_15 : decode cX9_common 15 = .ok (.invokevirtual 235, 3) := by decide +kernel
theorem dX9_common_18 : decode cX9_common 18 = .ok (.land, 1) := by decide +kernel
theorem dX9_common_19 : decode cX9_common 19 = .ok (.invokestatic 188, 3) := by decide +kernel
theorem dX9_common_22 : decode cX9_common 22 = .ok (.ireturn, 1) := by decide +kernel
theorem dX9_isWithin_0 : decode cX9_isWithin 0 = .ok (.aload_n 0, 1) := by decide +kernel
theorem dX9_isWithin_1 : decode cX9_isWithin 1 = .ok (.iload_n 1, 1) := by decide +kernel
theorem dX9_isWithin_2 : decode cX9_isWithin 2 = .ok (.invokevirtual 122, 3) := by decide +kernel
theorem dX9_isWithin_5 : decode cX9_isWithin 5 = .ok (.invokevirtual 235, 3) := by decide +kernel
theorem dX9_isWithin_8 : decode cX9_isWithin 8 = .ok (.lstore_n 3, 1) := by decide +kernel
theorem dX9_isWithin_9 : decode cX9_isWithin 9 = .ok (.lload_n 3, 1) := by decide +kernel
theorem dX9_isWithin_10 : decode cX9_isWithin 10 = .ok (.aload_n 0, 1) := by decide +kernel
theorem dX9_isWithin_11 : decode cX9_isWithin 11 = .ok (.iload_n 2, 1) := by decide +kernel
theorem dX9_isWithin_12 : decode cX9_isWithin 12 = .ok (.invokevirtual 122, 3) := by decide +kernel
theorem dX9_isWithin_15 : decode cX9_isWithin 15 = .ok (.invokevirtual 235, 3) := by decide +kernel
theorem dX9_isWithin_18 : decode cX9_isWithin 18 = .ok (.ldc2_w 186, 3) := by decide +kernel
theorem dX9_isWithin_21 : decode cX9_isWithin 21 = .ok (.lxor, 1) := by decide +kernel
theorem dX9_isWithin_22 : decode cX9_isWithin 22 = .ok (.land, 1) := by decide +kernel
theorem dX9_isWithin_23 : decode cX9_isWithin 23 = .ok (.lconst 0, 1) := by decide +kernel
theorem dX9_isWithin_24 : decode cX9_isWithin 24 = .ok (.lcmp, 1) := by decide +kernel
theorem dX9_isWithin_25 : decode cX9_isWithin 25 = .ok (.ifCond .ne 7, 3) := by decide +kernel
theorem dX9_isWithin_28 : decode cX9_isWithin 28 = .ok (.iconst 1, 1) := by decide +kernel
theorem dX9_isWithin_29 : decode cX9_isWithin 29 = .ok (.goto 4, 3) := by decide +kernel
theorem dX9_isWithin_32 : decode cX9_isWithin 32 = .ok (.iconst 0, 1) := by decide +kernel
theorem dX9_isWithin_33 : decode cX9_isWithin 33 = .ok (.ireturn, 1) := by decide +kernel
theorem dX9_likeness_0 : decode cX9_likeness 0 = .ok (.aload_n 0, 1) := by decide +kernel
theorem dX9_likeness_1 : decode cX9_likeness 1 = .ok (.iload_n 1, 1) := by decide +kernel
theorem dX9_likeness_2 : decode cX9_likeness 2 = .ok (.invokevirtual 122, 3) := by decide +kernel
theorem dX9_likeness_5 : decode cX9_likeness 5 = .ok (.invokevirtual 235, 3) := by decide +kernel
theorem dX9_likeness_8 : decode cX9_likeness 8 = .ok (.lstore_n 3, 1) := by decide +kernel
theorem dX9_likeness_9 : decode cX9_likeness 9 = .ok (.aload_n 0, 1) := by decide +kernel
theorem dX9_likeness_10 : decode cX9_likeness 10 = .ok (.iload_n 2, 1) := by decide +kernel
theorem dX9_likeness_11 : decode cX9_likeness 11 = .ok (.invokevirtual 122, 3) := by decide +kernel
theorem dX9_likeness_14 : decode cX9_likeness 14 = .ok (.invokevirtual 235, 3) := by decide +kernel
theorem dX9_likeness_17 : decode cX9_likeness 17 = .ok (.lstore 5, 2) := by decide +kernel
theorem dX9_likeness_19 : decode cX9_likeness 19 = .ok (.lload_n 3, 1) := by decide +kernel
theorem dX9_likeness_20 : decode cX9_likeness 20 = .ok (.lload 5, 2) := by decide +kernel
theorem dX9_likeness_22 : decode cX9_likeness 22 = .ok (.lor, 1) := by decide +kernel
theorem dX9_likeness_23 : decode cX9_likeness 23 = .ok (.invokestatic 188, 3) := by decide +kernel
theorem dX9_likeness_26 : decode cX9_likeness 26 = .ok (.istore 7, 2) := by decide +kernel
theorem dX9_likeness_28 : decode cX9_likeness 28 = .ok (.iload 7, 2) := by decide +kernel
theorem dX9_likeness_30 : decode cX9_likeness 30 = .ok (.ifCond .ne 5, 3) := by decide +kernel
theorem dX9_likeness_33 : decode cX9_likeness 33 = .ok (.dconst 1, 1) := by decide +kernel
theorem dX9_likeness_34 : decode cX9_likeness 34 = .ok (.dreturn, 1) := by decide +kernel
theorem dX9_likeness_35 : decode cX9_likeness 35 = .ok (.lload_n 3, 1) := by decide +kernel
theorem dX9_likeness_36 : decode cX9_likeness 36 = .ok (.lload 5, 2) := by decide +kernel
theorem dX9_likeness_38 : decode cX9_likeness 38 = .ok (.land, 1) := by decide +kernel
theorem dX9_likeness_39 : decode cX9_likeness 39 = .ok (.invokestatic 188, 3) := by decide +kernel
theorem dX9_likeness_42 : decode cX9_likeness 42 = .ok (.i2d, 1) := by decide +kernel
theorem dX9_likeness_43 : decode cX9_likeness 43 = .ok (.iload 7, 2) := by decide +kernel
theorem dX9_likeness_45 : decode cX9_likeness 45 = .ok (.i2d, 1) := by decide +kernel
theorem dX9_likeness_46 : decode cX9_likeness 46 = .ok (.ddiv, 1) := by decide +kernel
theorem dX9_likeness_47 : decode cX9_likeness 47 = .ok (.dreturn, 1) := by decide +kernel
theorem dX9_add_0 : decode cX9_add 0 = .ok (.aload_n 0, 1) := by decide +kernel
theorem dX9_add_1 : decode cX9_add 1 = .ok (.iload_n 1, 1) := by decide +kernel
theorem dX9_add_2 : decode cX9_add 2 = .ok (.invokevirtual 122, 3) := by decide +kernel
theorem dX9_add_5 : decode cX9_add 5 = .ok (.astore_n 3, 1) := by decide +kernel
theorem dX9_add_6 : decode cX9_add 6 = .ok (.aload_n 0, 1) := by decide +kernel
theorem dX9_add_7 : decode cX9_add 7 = .ok (.iload_n 2, 1) := by decide +kernel
theorem dX9_add_8 : decode cX9_add 8 = .ok (.invokevirtual 194, 3) := by decide +kernel
theorem dX9_add_11 : decode cX9_add 11 = .ok (.aload_n 0, 1) := by decide +kernel
theorem dX9_add_12 : decode cX9_add 12 = .ok (.getfield 19, 3) := by decide +kernel
theorem dX9_add_15 : decode cX9_add 15 = .ok (.aload_n 0, 1) := by decide +kernel
theorem dX9_add_16 : decode cX9_add 16 = .ok (.getfield 33, 3) := by decide +kernel
theorem dX9_add_19 : decode cX9_add 19 = .ok (.invokevirtual 239, 3) := by decide +kernel
theorem dX9_add_22 : decode cX9_add 22 = .ok (.aload_n 0, 1) := by decide +kernel
theorem dX9_add_23 : decode cX9_add 23 = .ok (.getfield 33, 3) := by decide +kernel
theorem dX9_add_26 : decode cX9_add 26 = .ok (.aload_n 3, 1) := by decide +kernel
theorem dX9_add_27 : decode cX9_add 27 = .ok (.iload_n 2, 1) := by decide +kernel
theorem dX9_add_28 : decode cX9_add 28 = .ok (.invokevirtual 243, 3) := by decide +kernel
theorem dX9_add_31 : decode cX9_add 31 = .ok (.pop, 1) := by decide +kernel
theorem dX9_add_32 : decode cX9_add 32 = .ok (.aload_n 3, 1) := by decide +kernel
theorem dX9_add_33 : decode cX9_add 33 = .ok (.iload_n 2, 1) := by decide +kernel
theorem dX9_add_34 : decode cX9_add 34 = .ok (.invokevirtual 160, 3) := by decide +kernel
theorem dX9_add_37 : decode cX9_add 37 = .ok (.ireturn, 1) := by decide +kernel
theorem dX9_remove_0 : decode cX9_remove 0 = .ok (.aload_n 0, 1) := by decide +kernel
theorem dX9_remove_1 : decode cX9_remove 1 = .ok (.iload_n 1, 1) := by decide +kernel
theorem dX9_remove_2 : decode cX9_remove 2 = .ok (.invokevirtual 247, 3) := by decide +kernel
theorem dX9_remove_5 : decode cX9_remove 5 = .ok (.aload_n 0, 1) := by decide +kernel
theorem dX9_remove_6 : decode cX9_remove 6 = .ok (.iload_n 2, 1) := by decide +kernel
theorem dX9_remove_7 : decode cX9_remove 7 = .ok (.invokevirtual 194, 3) := by decide +kernel
theorem dX9_remove_10 : decode cX9_remove 10 = .ok (.aload_n 0, 1) := by decide +kernel
theorem dX9_remove_11 : decode cX9_remove 11 = .ok (.getfield 19, 3) := by decide +kernel
theorem dX9_remove_14 : decode cX9_remove 14 = .ok (.aload_n 0, 1) := by decide +kernel
theorem dX9_remove_15 : decode cX9_remove 15 = .ok (.getfield 33, 3) := by decide +kernel
theorem dX9_remove_18 : decode cX9_remove 18 = .ok (.invokevirtual 239, 3) := by decide +kernel
theorem dX9_remove_21 : decode cX9_remove 21 = .ok (.aload_n 0, 1) := by decide +kernel
theorem dX9_remove_22 : decode cX9_remove 22 = .ok (.getfield 33, 3) := by decide +kernel
theorem dX9_remove_25 : decode cX9_remove 25 = .ok (.iload_n 1, 1) := by decide +kernel
theorem dX9_remove_26 : decode cX9_remove 26 = .ok (.iload_n 2, 1) := by decide +kernel
theorem dX9_remove_27 : decode cX9_remove 27 = .ok (.invokevirtual 250, 3) := by decide +kernel
theorem dX9_remove_30 : decode cX9_remove 30 = .ok (.ireturn, 1) := by decide +kernel
theorem dX9_clear_0 : decode cX9_clear 0 = .ok (.aload_n 0, 1) := by decide +kernel
theorem dX9_clear_1 : decode cX9_clear 1 = .ok (.iload_n 1, 1) := by decide +kernel
theorem dX9_clear_2 : decode cX9_clear 2 = .ok (.invokevirtual 122, 3) := by decide +kernel
theorem dX9_clear_5 : decode cX9_clear 5 = .ok (.getfield 126, 3) := by decide +kernel
theorem dX9_clear_8 : decode cX9_clear 8 = .ok (.istore_n 2, 1) := by decide +kernel
theorem dX9_clear_9 : decode cX9_clear 9 = .ok (.aload_n 0, 1) := by decide +kernel
theorem dX9_clear_10 : decode cX9_clear 10 = .ok (.getfield 19, 3) := by decide +kernel
theorem dX9_clear_13 : decode cX9_clear 13 = .ok (.aload_n 0, 1) := by decide +kernel
theorem dX9_clear_14 : decode cX9_clear 14 = .ok (.getfield 33, 3) := by decide +kernel
theorem dX9_clear_17 : decode cX9_clear 17 = .ok (.invokevirtual 239, 3) := by decide +kernel
theorem dX9_clear_20 : decode cX9_clear 20 = .ok (.aload_n 0, 1) := by decide +kernel
theorem dX9_clear_21 : decode cX9_clear 21 = .ok (.getfield 33, 3) := by decide +kernel
theorem dX9_clear_24 : decode cX9_clear 24 = .ok (.iload_n 1, 1) := by decide +kernel
theorem dX9_clear_25 : decode cX9_clear 25 = .ok (.invokevirtual 254, 3) := by decide +kernel
theorem dX9_clear_28 : decode cX9_clear 28 = .ok (.iload_n 2, 1) := by decide +kernel
theorem dX9_clear_29 : decode cX9_clear 29 = .ok (.ireturn, 1) := by decide +kernel
theorem dX9_mark_0 : decode cX9_mark 0 = .ok (.aload_n 0, 1) := by decide +kernel
theorem dX9_mark_1 : decode cX9_mark 1 = .ok (.getfield 33, 3) := by decide +kernel
theorem dX9_mark_4 : decode cX9_mark 4 = .ok (.getfield 96, 3) := by decide +kernel
theorem dX9_mark_7 : decode cX9_mark 7 = .ok (.bipush 8, 2) := by decide +kernel
theorem dX9_mark_9 : decode cX9_mark 9 = .ok (.if_icmp .lt 14, 3) := by decide +kernel
theorem dX9_mark_12 : decode cX9_mark 12 = .ok (.new 257, 3) := by decide +kernel
theorem dX9_mark_15 : decode cX9_mark 15 = .ok (.dup, 1) := by decide +kernel
theorem dX9_mark_16 : decode cX9_mark 16 = .ok (.ldc_w 259, 3) := by decide +kernel
theorem dX9_mark_19 : decode cX9_mark 19 = .ok (.invokespecial 261, 3) := by decide +kernel
theorem dX9_mark_22 : decode cX9_mark 22 = .ok (.athrow, 1) := by decide +kernel
theorem dX9_mark_23 : decode cX9_mark 23 = .ok (.aload_n 0, 1) := by decide +kernel
theorem dX9_mark_24 : decode cX9_mark 24 = .ok (.getfield 19, 3) := by decide +kernel
theorem dX9_mark_27 : decode cX9_mark 27 = .ok (.aload_n 0, 1) := by decide +kernel
theorem dX9_mark_28 : decode cX9_mark 28 = .ok (.getfield 33, 3) := by decide +kernel
theorem dX9_mark_31 : decode cX9_mark 31 = .ok (.invokevirtual 239, 3) := by decide +kernel
theorem dX9_mark_34 : decode cX9_mark 34 = .ok (.aload_n 0, 1) := by decide +kernel
theorem dX9_mark_35 : decode cX9_mark 35 = .ok (.getfield 33, 3) := by decide +kernel
theorem dX9_mark_38 : decode cX9_mark 38 = .ok (.invokevirtual 262, 3) := by decide +kernel
theorem dX9_mark_41 : decode cX9_mark 41 = .ok (.aload_n 0, 1) := by decide +kernel
theorem dX9_mark_42 : decode cX9_mark 42 = .ok (.getfield 33, 3) := by decide +kernel
theorem dX9_mark_45 : decode cX9_mark 45 = .ok (.getfield 96, 3) := by decide +kernel
theorem dX9_mark_48 : decode cX9_mark 48 = .ok (.iconst 1, 1) := by decide +kernel
theorem dX9_mark_49 : decode cX9_mark 49 = .ok (.isub, 1) := by decide +kernel
theorem dX9_mark_50 : decode cX9_mark 50 = .ok (.ireturn, 1) := by decide +kernel
theorem dX9_open_0 : decode cX9_open 0 = .ok (.aload_n 0, 1) := by decide +kernel
theorem dX9_open_1 : decode cX9_open 1 = .ok (.iload_n 1, 1) := by decide +kernel
theorem dX9_open_2 : decode cX9_open 2 = .ok (.invokevirtual 247, 3) := by decide +kernel
theorem dX9_open_5 : decode cX9_open 5 = .ok (.aload_n 0, 1) := by decide +kernel
theorem dX9_open_6 : decode cX9_open 6 = .ok (.getfield 33, 3) := by decide +kernel
theorem dX9_open_9 : decode cX9_open 9 = .ok (.invokevirtual 265, 3) := by decide +kernel
theorem dX9_open_12 : decode cX9_open 12 = .ok (.istore_n 3, 1) := by decide +kernel
theorem dX9_open_13 : decode cX9_open 13 = .ok (.iload_n 3, 1) := by decide +kernel
theorem dX9_open_14 : decode cX9_open 14 = .ok (.iconst (-1), 1) := by decide +kernel
theorem dX9_open_15 : decode cX9_open 15 = .ok (.if_icmp .ne 14, 3) := by decide +kernel
theorem dX9_open_18 : decode cX9_open 18 = .ok (.new 257, 3) := by decide +kernel
theorem dX9_open_21 : decode cX9_open 21 = .ok (.dup, 1) := by decide +kernel
theorem dX9_open_22 : decode cX9_open 22 = .ok (.ldc_w 268, 3) := by decide +kernel
theorem dX9_open_25 : decode cX9_open 25 = .ok (.invokespecial 261, 3) := by decide +kernel
theorem dX9_open_28 : decode cX9_open 28 = .ok (.athrow, 1) := by decide +kernel
theorem dX9_open_29 : decode cX9_open 29 = .ok (.aload_n 0, 1) := by decide +kernel
theorem dX9_open_30 : decode cX9_open 30 = .ok (.getfield 19, 3) := by decide +kernel
theorem dX9_open_33 : decode cX9_open 33 = .ok (.aload_n 0, 1) := by decide +kernel
theorem dX9_open_34 : decode cX9_open 34 = .ok (.getfield 33, 3) := by decide +kernel
theorem dX9_open_37 : decode cX9_open 37 = .ok (.invokevirtual 239, 3) := by decide +kernel
theorem dX9_open_40 : decode cX9_open 40 = .ok (.aload_n 0, 1) := by decide +kernel
theorem dX9_open_41 : decode cX9_open 41 = .ok (.getfield 33, 3) := by decide +kernel
theorem dX9_open_44 : decode cX9_open 44 = .ok (.getfield 270, 3) := by decide +kernel
theorem dX9_open_47 : decode cX9_open 47 = .ok (.iload_n 3, 1) := by decide +kernel
theorem dX9_open_48 : decode cX9_open 48 = .ok (.aaload, 1) := by decide +kernel
theorem dX9_open_49 : decode cX9_open 49 = .ok (.iload_n 1, 1) := by decide +kernel
theorem dX9_open_50 : decode cX9_open 50 = .ok (.iload_n 2, 1) := by decide +kernel
theorem dX9_open_51 : decode cX9_open 51 = .ok (.aload_n 0, 1) := by decide +kernel
theorem dX9_open_52 : decode cX9_open 52 = .ok (.getfield 33, 3) := by decide +kernel
theorem dX9_open_55 : decode cX9_open 55 = .ok (.getfield 93, 3) := by decide +kernel
theorem dX9_open_58 : decode cX9_open 58 = .ok (.invokevirtual 274, 3) := by decide +kernel
theorem dX9_open_61 : decode cX9_open 61 = .ok (.iload_n 3, 1) := by decide +kernel
theorem dX9_open_62 : decode cX9_open 62 = .ok (.ireturn, 1) := by decide +kernel
theorem dX9_close_0 : decode cX9_close 0 = .ok (.aload_n 0, 1) := by decide +kernel
theorem dX9_close_1 : decode cX9_close 1 = .ok (.iload_n 1, 1) := by decide +kernel
theorem dX9_close_2 : decode cX9_close 2 = .ok (.invokevirtual 203, 3) := by decide +kernel
theorem dX9_close_5 : decode cX9_close 5 = .ok (.astore_n 2, 1) := by decide +kernel
theorem dX9_close_6 : decode cX9_close 6 = .ok (.aload_n 0, 1) := by decide +kernel
theorem dX9_close_7 : decode cX9_close 7 = .ok (.getfield 19, 3) := by decide +kernel
theorem dX9_close_10 : decode cX9_close 10 = .ok (.aload_n 0, 1) := by decide +kernel
theorem dX9_close_11 : decode cX9_close 11 = .ok (.getfield 33, 3) := by decide +kernel
theorem dX9_close_14 : decode cX9_close 14 = .ok (.invokevirtual 239, 3) := by decide +kernel
theorem dX9_close_17 : decode cX9_close 17 = .ok (.aload_n 2, 1) := by decide +kernel
theorem dX9_close_18 : decode cX9_close 18 = .ok (.iconst 0, 1) := by decide +kernel
theorem dX9_close_19 : decode cX9_close 19 = .ok (.putfield 277, 3) := by decide +kernel
theorem dX9_close_22 : decode cX9_close 22 = .ok (.aload_n 2, 1) := by decide +kernel
theorem dX9_close_23 : decode cX9_close 23 = .ok (.iconst 0, 1) := by decide +kernel
theorem dX9_close_24 : decode cX9_close 24 = .ok (.putfield 215, 3) := by decide +kernel
theorem dX9_close_27 : decode cX9_close 27 = .ok (.aload_n 2, 1) := by decide +kernel
theorem dX9_close_28 : decode cX9_close 28 = .ok (.getfield 225, 3) := by decide +kernel
theorem dX9_close_31 : decode cX9_close 31 = .ok (.ireturn, 1) := by decide +kernel
theorem dX9_step_0 : decode cX9_step 0 = .ok (.aload_n 0, 1) := by decide +kernel
theorem dX9_step_1 : decode cX9_step 1 = .ok (.iload_n 1, 1) := by decide +kernel
theorem dX9_step_2 : decode cX9_step 2 = .ok (.invokevirtual 203, 3) := by decide +kernel
theorem dX9_step_5 : decode cX9_step 5 = .ok (.astore_n 2, 1) := by decide +kernel
theorem dX9_step_6 : decode cX9_step 6 = .ok (.aload_n 0, 1) := by decide +kernel
theorem dX9_step_7 : decode cX9_step 7 = .ok (.getfield 19, 3) := by decide +kernel
theorem dX9_step_10 : decode cX9_step 10 = .ok (.aload_n 0, 1) := by decide +kernel
theorem dX9_step_11 : decode cX9_step 11 = .ok (.getfield 33, 3) := by decide +kernel
theorem dX9_step_14 : decode cX9_step 14 = .ok (.invokevirtual 239, 3) := by decide +kernel
theorem dX9_step_17 : decode cX9_step 17 = .ok (.aload_n 2, 1) := by decide +kernel
theorem dX9_step_18 : decode cX9_step 18 = .ok (.getfield 215, 3) := by decide +kernel
theorem dX9_step_21 : decode cX9_step 21 = .ok (.ifCond .eq 14, 3) := by decide +kernel
theorem dX9_step_24 : decode cX9_step 24 = .ok (.aload_n 0, 1) := by decide +kernel
theorem dX9_step_25 : decode cX9_step 25 = .ok (.getfield 33, 3) := by decide +kernel
theorem dX9_step_28 : decode cX9_step 28 = .ok (.aload_n 2, 1) := by decide +kernel
theorem dX9_step_29 : decode cX9_step 29 = .ok (.invokevirtual 280, 3) := by decide +kernel
theorem dX9_step_32 : decode cX9_step 32 = .ok (.goto 4, 3) := by decide +kernel
theorem dX9_step_35 : decode cX9_step 35 = .ok (.iconst (-1), 1) := by decide +kernel
theorem dX9_step_36 : decode cX9_step 36 = .ok (.ireturn, 1) := by decide +kernel
theorem dX9_removeMet_0 : decode cX9_removeMet 0 = .ok (.aload_n 0, 1) := by decide +kernel
theorem dX9_removeMet_1 : decode cX9_removeMet 1 = .ok (.iload_n 1, 1) := by decide +kernel
theorem dX9_removeMet_2 : decode cX9_removeMet 2 = .ok (.invokevirtual 203, 3) := by decide +kernel
theorem dX9_removeMet_5 : decode cX9_removeMet 5 = .ok (.astore_n 2, 1) := by decide +kernel
theorem dX9_removeMet_6 : decode cX9_removeMet 6 = .ok (.aload_n 2, 1) := by decide +kernel
theorem dX9_removeMet_7 : decode cX9_removeMet 7 = .ok (.getfield 228, 3) := by decide +kernel
theorem dX9_removeMet_10 : decode cX9_removeMet 10 = .ok (.istore_n 3, 1) := by decide +kernel
theorem dX9_removeMet_11 : decode cX9_removeMet 11 = .ok (.aload_n 2, 1) := by decide +kernel
theorem dX9_removeMet_12 : decode cX9_removeMet 12 = .ok (.getfield 215, 3) := by decide +kernel
theorem dX9_removeMet_15 : decode cX9_removeMet 15 = .ok (.ifCond .eq 22, 3) := by decide +kernel
theorem dX9_removeMet_18 : decode cX9_removeMet 18 = .ok (.aload_n 0, 1) := by decide +kernel
theorem dX9_removeMet_19 : decode cX9_removeMet 19 = .ok (.getfield 33, 3) := by decide +kernel
theorem dX9_removeMet_22 : decode cX9_removeMet 22 = .ok (.getfield 283, 3) := by decide +kernel
theorem dX9_removeMet_25 : decode cX9_removeMet 25 = .ok (.aload_n 2, 1) := by decide +kernel
theorem dX9_removeMet_26 : decode cX9_removeMet 26 = .ok (.getfield 207, 3) := by decide +kernel
theorem dX9_removeMet_29 : decode cX9_removeMet 29 = .ok (.aaload, 1) := by decide +kernel
theorem dX9_removeMet_30 : decode cX9_removeMet 30 = .ok (.iload_n 3, 1) := by decide +kernel
theorem dX9_removeMet_31 : decode cX9_removeMet 31 = .ok (.invokevirtual 163, 3) := by decide +kernel
theorem dX9_removeMet_34 : decode cX9_removeMet 34 = .ok (.ifCond .ne 14, 3) := by decide +kernel
theorem dX9_removeMet_37 : decode cX9_removeMet 37 = .ok (.new 257, 3) := by decide +kernel
theorem dX9_removeMet_40 : decode cX9_removeMet 40 = .ok (.dup, 1) := by decide +kernel
theorem dX9_removeMet_41 : decode cX9_removeMet 41 = .ok (.ldc_w 287, 3) := by decide +kernel
theorem dX9_removeMet_44 : decode cX9_removeMet 44 = .ok (.invokespecial 261, 3) := by decide +kernel
theorem dX9_removeMet_47 : decode cX9_removeMet 47 = .ok (.athrow, 1) := by decide +kernel
theorem dX9_removeMet_48 : decode cX9_removeMet 48 = .ok (.aload_n 0, 1) := by decide +kernel
theorem dX9_removeMet_49 : decode cX9_removeMet 49 = .ok (.getfield 19, 3) := by decide +kernel
theorem dX9_removeMet_52 : decode cX9_removeMet 52 = .ok (.aload_n 0, 1) := by decide +kernel
theorem dX9_removeMet_53 : decode cX9_removeMet 53 = .ok (.getfield 33, 3) := by decide +kernel
theorem dX9_removeMet_56 : decode cX9_removeMet 56 = .ok (.invokevirtual 239, 3) := by decide +kernel
theorem dX9_removeMet_59 : decode cX9_removeMet 59 = .ok (.aload_n 0, 1) := by decide +kernel
theorem dX9_removeMet_60 : decode cX9_removeMet 60 = .ok (.getfield 33, 3) := by decide +kernel
theorem dX9_removeMet_63 : decode cX9_removeMet 63 = .ok (.aload_n 2, 1) := by decide +kernel
theorem dX9_removeMet_64 : decode cX9_removeMet 64 = .ok (.getfield 207, 3) := by decide +kernel
theorem dX9_removeMet_67 : decode cX9_removeMet 67 = .ok (.iload_n 3, 1) := by decide +kernel
theorem dX9_removeMet_68 : decode cX9_removeMet 68 = .ok (.invokevirtual 250, 3) := by decide +kernel
theorem dX9_removeMet_71 : decode cX9_removeMet 71 = .ok (.pop, 1) := by decide +kernel
theorem dX9_removeMet_72 : decode cX9_removeMet 72 = .ok (.iload_n 3, 1) := by decide +kernel
theorem dX9_removeMet_73 : decode cX9_removeMet 73 = .ok (.ireturn, 1) := by decide +kernel
theorem dX9_keep_0 : decode cX9_keep 0 = .ok (.aload_n 0, 1) := by decide +kernel
theorem dX9_keep_1 : decode cX9_keep 1 = .ok (.iload_n 1, 1) := by decide +kernel
theorem dX9_keep_2 : decode cX9_keep 2 = .ok (.invokevirtual 247, 3) := by decide +kernel
theorem dX9_keep_5 : decode cX9_keep 5 = .ok (.aload_n 0, 1) := by decide +kernel
theorem dX9_keep_6 : decode cX9_keep 6 = .ok (.iload_n 2, 1) := by decide +kernel
theorem dX9_keep_7 : decode cX9_keep 7 = .ok (.invokevirtual 247, 3) := by decide +kernel
theorem dX9_keep_10 : decode cX9_keep 10 = .ok (.aload_n 0, 1) := by decide +kernel
theorem dX9_keep_11 : decode cX9_keep 11 = .ok (.getfield 19, 3) := by decide +kernel
theorem dX9_keep_14 : decode cX9_keep 14 = .ok (.aload_n 0, 1) := by decide +kernel
theorem dX9_keep_15 : decode cX9_keep 15 = .ok (.getfield 33, 3) := by decide +kernel
theorem dX9_keep_18 : decode cX9_keep 18 = .ok (.invokevirtual 239, 3) := by decide +kernel
theorem dX9_keep_21 : decode cX9_keep 21 = .ok (.aload_n 0, 1) := by decide +kernel
theorem dX9_keep_22 : decode cX9_keep 22 = .ok (.getfield 33, 3) := by decide +kernel
theorem dX9_keep_25 : decode cX9_keep 25 = .ok (.iload_n 1, 1) := by decide +kernel
theorem dX9_keep_26 : decode cX9_keep 26 = .ok (.iload_n 2, 1) := by decide +kernel
theorem dX9_keep_27 : decode cX9_keep 27 = .ok (.invokevirtual 289, 3) := by decide +kernel
theorem dX9_keep_30 : decode cX9_keep 30 = .ok (.ireturn, 1) := by decide +kernel
theorem dX9_unite_0 : decode cX9_unite 0 = .ok (.aload_n 0, 1) := by decide +kernel
theorem dX9_unite_1 : decode cX9_unite 1 = .ok (.iload_n 1, 1) := by decide +kernel
theorem dX9_unite_2 : decode cX9_unite 2 = .ok (.invokevirtual 247, 3) := by decide +kernel
theorem dX9_unite_5 : decode cX9_unite 5 = .ok (.aload_n 0, 1) := by decide +kernel
theorem dX9_unite_6 : decode cX9_unite 6 = .ok (.iload_n 2, 1) := by decide +kernel
theorem dX9_unite_7 : decode cX9_unite 7 = .ok (.invokevirtual 247, 3) := by decide +kernel
theorem dX9_unite_10 : decode cX9_unite 10 = .ok (.aload_n 0, 1) := by decide +kernel
theorem dX9_unite_11 : decode cX9_unite 11 = .ok (.getfield 19, 3) := by decide +kernel
theorem dX9_unite_14 : decode cX9_unite 14 = .ok (.aload_n 0, 1) := by decide +kernel
theorem dX9_unite_15 : decode cX9_unite 15 = .ok (.getfield 33, 3) := by decide +kernel
theorem dX9_unite_18 : decode cX9_unite 18 = .ok (.invokevirtual 239, 3) := by decide +kernel
theorem dX9_unite_21 : decode cX9_unite 21 = .ok (.aload_n 0, 1) := by decide +kernel
theorem dX9_unite_22 : decode cX9_unite 22 = .ok (.getfield 33, 3) := by decide +kernel
theorem dX9_unite_25 : decode cX9_unite 25 = .ok (.iload_n 1, 1) := by decide +kernel
theorem dX9_unite_26 : decode cX9_unite 26 = .ok (.iload_n 2, 1) := by decide +kernel
theorem dX9_unite_27 : decode cX9_unite 27 = .ok (.invokevirtual 293, 3) := by decide +kernel
theorem dX9_unite_30 : decode cX9_unite 30 = .ok (.ireturn, 1) := by decide +kernel
theorem dX10_init_0 : decode cX10_init 0 = .ok (.aload_n 0, 1) := by decide +kernel
theorem dX10_init_1 : decode cX10_init 1 = .ok (.invokespecial 1, 3) := by decide +kernel
theorem dX10_init_4 : decode cX10_init 4 = .ok (.aload_n 0, 1) := by decide +kernel
theorem dX10_init_5 : decode cX10_init 5 = .ok (.bipush 64, 2) := by decide +kernel
theorem dX10_init_7 : decode cX10_init 7 = .ok (.newarray .int, 2) := by decide +kernel
theorem dX10_init_9 : decode cX10_init 9 = .ok (.putfield 7, 3) := by decide +kernel
theorem dX10_init_12 : decode cX10_init 12 = .ok (.aload_n 0, 1) := by decide +kernel
theorem dX10_init_13 : decode cX10_init 13 = .ok (.bipush 64, 2) := by decide +kernel
theorem dX10_init_15 : decode cX10_init 15 = .ok (.newarray .int, 2) := by decide +kernel
theorem dX10_init_17 : decode cX10_init 17 = .ok (.putfield 13, 3) := by decide +kernel
theorem dX10_init_20 : decode cX10_init 20 = .ok (.aload_n 0, 1) := by decide +kernel
theorem dX10_init_21 : decode cX10_init 21 = .ok (.bipush 64, 2) := by decide +kernel
theorem dX10_init_23 : decode cX10_init 23 = .ok (.newarray .int, 2) := by decide +kernel
theorem dX10_init_25 : decode cX10_init 25 = .ok (.putfield 16, 3) := by decide +kernel
theorem dX10_init_28 : decode cX10_init 28 = .ok (.aload_n 0, 1) := by decide +kernel
theorem dX10_init_29 : decode cX10_init 29 = .ok (.sipush 2000, 3) := by decide +kernel
theorem dX10_init_32 : decode cX10_init 32 = .ok (.newarray .int, 2) := by decide +kernel
theorem dX10_init_34 : decode cX10_init 34 = .ok (.putfield 19, 3) := by decide +kernel
theorem dX10_init_37 : decode cX10_init 37 = .ok (.aload_n 0, 1) := by decide +kernel
theorem dX10_init_38 : decode cX10_init 38 = .ok (.sipush 2000, 3) := by decide +kernel
theorem dX10_init_41 : decode cX10_init 41 = .ok (.newarray .int, 2) := by decide +kernel
theorem dX10_init_43 : decode cX10_init 43 = .ok (.putfield 22, 3) := by decide +kernel
theorem dX10_init_46 : decode cX10_init 46 = .ok (.aload_n 0, 1) := by decide +kernel
theorem dX10_init_47 : decode cX10_init 47 = .ok (.sipush 2000, 3) := by decide +kernel
theorem dX10_init_50 : decode cX10_init 50 = .ok (.newarray .int, 2) := by decide +kernel
theorem dX10_init_52 : decode cX10_init 52 = .ok (.putfield 25, 3) := by decide +kernel
theorem dX10_init_55 : decode cX10_init 55 = .ok (.aload_n 0, 1) := by decide +kernel
theorem dX10_init_56 : decode cX10_init 56 = .ok (.sipush 2001, 3) := by decide +kernel
theorem dX10_init_59 : decode cX10_init 59 = .ok (.newarray .long, 2) := by decide +kernel
theorem dX10_init_61 : decode cX10_init 61 = .ok (.putfield 28, 3) := by decide +kernel
theorem dX10_init_64 : decode cX10_init 64 = .ok (.return_, 1) := by decide +kernel
theorem dX10_has_0 : decode cX10_has 0 = .ok (.aload_n 0, 1) := by decide +kernel
theorem dX10_has_1 : decode cX10_has 1 = .ok (.getfield 13, 3) := by decide +kernel
theorem dX10_has_4 : decode cX10_has 4 = .ok (.iload_n 1, 1) := by decide +kernel
theorem dX10_has_5 : decode cX10_has 5 = .ok (.iaload, 1) := by decide +kernel
theorem dX10_has_6 : decode cX10_has 6 = .ok (.aload_n 0, 1) := by decide +kernel
theorem dX10_has_7 : decode cX10_has 7 = .ok (.getfield 32, 3) := by decide +kernel
theorem dX10_has_10 : decode cX10_has 10 = .ok (.if_icmp .ge 22, 3) := by decide +kernel
theorem dX10_has_13 : decode cX10_has 13 = .ok (.aload_n 0, 1) := by decide +kernel
theorem dX10_has_14 : decode cX10_has 14 = .ok (.getfield 7, 3) := by decide +kernel
theorem dX10_has_17 : decode cX10_has 17 = .ok (.aload_n 0, 1) := by decide +kernel
theorem dX10_has_18 : decode cX10_has 18 = .ok (.getfield 13, 3) := by decide +kernel
theorem dX10_has_21 : decode cX10_has 21 = .ok (.iload_n 1, 1) := by decide +kernel
theorem dX10_has_22 : decode cX10_has 22 = .ok (.iaload, 1) := by decide +kernel
theorem dX10_has_23 : decode cX10_has 23 = .ok (.iaload, 1) := by decide +kernel
theorem dX10_has_24 : decode cX10_has 24 = .ok (.iload_n 1, 1) := by decide +kernel
theorem dX10_has_25 : decode cX10_has 25 = .ok (.if_icmp .ne 7, 3) := by decide +kernel
theorem dX10_has_28 : decode cX10_has 28 = .ok (.iconst 1, 1) := by decide +kernel
theorem dX10_has_29 : decode cX10_has 29 = .ok (.goto 4, 3) := by decide +kernel
theorem dX10_has_32 : decode cX10_has 32 = .ok (.iconst 0, 1) := by decide +kernel
theorem dX10_has_33 : decode cX10_has 33 = .ok (.ireturn, 1) := by decide +kernel
theorem dX10_bits_0 : decode cX10_bits 0 = .ok (.lconst 0, 1) := by decide +kernel
theorem dX10_bits_1 : decode cX10_bits 1 = .ok (.lstore_n 1, 1) := by decide +kernel
theorem dX10_bits_2 : decode cX10_bits 2 = .ok (.iconst 0, 1) := by decide +kernel
theorem dX10_bits_3 : decode cX10_bits 3 = .ok (.istore_n 3, 1) := by decide +kernel
theorem dX10_bits_4 : decode cX10_bits 4 = .ok (.iload_n 3, 1) := by decide +kernel
theorem dX10_bits_5 : decode cX10_bits 5 = .ok (.aload_n 0, 1) := by decide +kernel
theorem dX10_bits_6 : decode cX10_bits 6 = .ok (.getfield 32, 3) := by decide +kernel
theorem dX10_bits_9 : decode cX10_bits 9 = .ok (.if_icmp .ge 20, 3) := by decide +kernel
theorem dX10_bits_12 : decode cX10_bits 12 = .ok (.lload_n 1, 1) := by decide +kernel
theorem dX10_bits_13 : decode cX10_bits 13 = .ok (.lconst 1, 1) := by decide +kernel
theorem dX10_bits_14 : decode cX10_bits 14 = .ok (.aload_n 0, 1) := by decide +kernel
theorem dX10_bits_15 : decode cX10_bits 15 = .ok (.getfield 7, 3) := by decide +kernel
theorem dX10_bits_18 : decode cX10_bits 18 = .ok (.iload_n 3, 1) := by decide +kernel
theorem dX10_bits_19 : decode cX10_bits 19 = .ok (.iaload, 1) := by decide +kernel
theorem dX10_bits_20 : decode cX10_bits 20 = .ok (.lshl, 1) := by decide +kernel
theorem dX10_bits_21 : decode cX10_bits 21 = .ok (.lor, 1) := by decide +kernel
theorem dX10_bits_22 : decode cX10_bits 22 = .ok (.lstore_n 1, 1) := by decide +kernel
theorem dX10_bits_23 : decode cX10_bits 23 = .ok (.iinc 3 1, 3) := by decide +kernel
theorem dX10_bits_26 : decode cX10_bits 26 = .ok (.goto (-22), 3) := by decide +kernel
theorem dX10_bits_29 : decode cX10_bits 29 = .ok (.lload_n 1, 1) := by decide +kernel
theorem dX10_bits_30 : decode cX10_bits 30 = .ok (.lreturn, 1) := by decide +kernel
theorem dX10_note_0 : decode cX10_note 0 = .ok (.aload_n 0, 1) := by decide +kernel
theorem dX10_note_1 : decode cX10_note 1 = .ok (.getfield 19, 3) := by decide +kernel
theorem dX10_note_4 : decode cX10_note 4 = .ok (.aload_n 0, 1) := by decide +kernel
theorem dX10_note_5 : decode cX10_note 5 = .ok (.getfield 36, 3) := by decide +kernel
theorem dX10_note_8 : decode cX10_note 8 = .ok (.iload_n 1, 1) := by decide +kernel
theorem dX10_note_9 : decode cX10_note 9 = .ok (.iastore, 1) := by decide +kernel
theorem dX10_note_10 : decode cX10_note 10 = .ok (.aload_n 0, 1) := by decide +kernel
theorem dX10_note_11 : decode cX10_note 11 = .ok (.getfield 22, 3) := by decide +kernel
theorem dX10_note_14 : decode cX10_note 14 = .ok (.aload_n 0, 1) := by decide +kernel
theorem dX10_note_15 : decode cX10_note 15 = .ok (.getfield 36, 3) := by decide +kernel
theorem dX10_note_18 : decode cX10_note 18 = .ok (.iload_n 2, 1) := by decide +kernel
theorem dX10_note_19 : decode cX10_note 19 = .ok (.iastore, 1) := by decide +kernel
theorem dX10_note_20 : decode cX10_note 20 = .ok (.aload_n 0, 1) := by decide +kernel
theorem dX10_note_21 : decode cX10_note 21 = .ok (.getfield 25, 3) := by decide +kernel
theorem dX10_note_24 : decode cX10_note 24 = .ok (.aload_n 0, 1) := by decide +kernel
theorem dX10_note_25 : decode cX10_note 25 = .ok (.getfield 36, 3) := by decide +kernel
theorem dX10_note_28 : decode cX10_note 28 = .ok (.iload_n 3, 1) := by decide +kernel
theorem dX10_note_29 : decode cX10_note 29 = .ok (.iastore, 1) := by decide +kernel
theorem dX10_note_30 : decode cX10_note 30 = .ok (.aload_n 0, 1) := by decide +kernel
theorem dX10_note_31 : decode cX10_note 31 = .ok (.dup, 1) := by decide +kernel
theorem dX10_note_32 : decode cX10_note 32 = .ok (.getfield 36, 3) := by decide +kernel
theorem dX10_note_35 : decode cX10_note 35 = .ok (.iconst 1, 1) := by decide +kernel
theorem dX10_note_36 : decode cX10_note 36 = .ok (.iadd, 1) := by decide +kernel
theorem dX10_note_37 : decode cX10_note 37 = .ok (.putfield 36, 3) := by decide +kernel
theorem dX10_note_40 : decode cX10_note 40 = .ok (.aload_n 0, 1) := by decide +kernel
theorem dX10_note_41 : decode cX10_note 41 = .ok (.getfield 28, 3) := by decide +kernel
theorem dX10_note_44 : decode cX10_note 44 = .ok (.aload_n 0, 1) := by decide +kernel
theorem dX10_note_45 : decode cX10_note 45 = .ok (.getfield 36, 3) := by decide +kernel
theorem dX10_note_48 : decode cX10_note 48 = .ok (.aload_n 0, 1) := by decide +kernel
theorem dX10_note_49 : decode cX10_note 49 = .ok (.invokevirtual 39, 3) := by decide +kernel
theorem dX10_note_52 : decode cX10_note 52 = .ok (.lastore, 1) := by decide +kernel
theorem dX10_note_53 : decode cX10_note 53 = .ok (.return_, 1) := by decide +kernel
theorem dX10_kept_0 : decode cX10_kept 0 = .ok (.aload_n 0, 1) := by decide +kernel
theorem dX10_kept_1 : decode cX10_kept 1 = .ok (.getfield 36, 3) := by decide +kernel
theorem dX10_kept_4 : decode cX10_kept 4 = .ok (.iload_n 1, 1) := by decide +kernel
theorem dX10_kept_5 : decode cX10_kept 5 = .ok (.invokestatic 43, 3) := by decide +kernel
theorem dX10_kept_8 : decode cX10_kept 8 = .ok (.ireturn, 1) := by decide +kernel
theorem dX10_first_0 : decode cX10_first 0 = .ok (.aload_n 0, 1) := by decide +kernel
theorem dX10_first_1 : decode cX10_first 1 = .ok (.getfield 36, 3) := by decide +kernel
theorem dX10_first_4 : decode cX10_first 4 = .ok (.iload_n 1, 1) := by decide +kernel
theorem dX10_first_5 : decode cX10_first 5 = .ok (.if_icmp .le 19, 3) := by decide +kernel
theorem dX10_first_8 : decode cX10_first 8 = .ok (.aload_n 0, 1) := by decide +kernel
theorem dX10_first_9 : decode cX10_first 9 = .ok (.getfield 19, 3) := by decide +kernel
theorem dX10_first_12 : decode cX10_first 12 = .ok (.aload_n 0, 1) := by decide +kernel
theorem dX10_first_13 : decode cX10_first 13 = .ok (.getfield 36, 3) := by decide +kernel
theorem dX10_first_16 : decode cX10_first 16 = .ok (.iload_n 1, 1) := by decide +kernel
theorem dX10_first_17 : decode cX10_first 17 = .ok (.isub, 1) := by decide +kernel
theorem dX10_first_18 : decode cX10_first 18 = .ok (.iconst 1, 1) := by decide +kernel
theorem dX10_first_19 : decode cX10_first 19 = .ok (.isub, 1) := by decide +kernel
theorem dX10_first_20 : decode cX10_first 20 = .ok (.iaload, 1) := by decide +kernel
theorem dX10_first_21 : decode cX10_first 21 = .ok (.goto 4, 3) := by decide +kernel
theorem dX10_first_24 : decode cX10_first 24 = .ok (.iconst 0, 1) := by decide +kernel
theorem dX10_first_25 : decode cX10_first 25 = .ok (.ireturn, 1) := by decide +kernel
theorem dX10_at_0 : decode cX10_at 0 = .ok (.aload_n 0, 1) := by decide +kernel
theorem dX10_at_1 : decode cX10_at 1 = .ok (.getfield 36, 3) := by decide +kernel
theorem dX10_at_4 : decode cX10_at 4 = .ok (.istore_n 2, 1) := by decide +kernel
theorem dX10_at_5 : decode cX10_at 5 = .ok (.iload_n 2, 1) := by decide +kernel
theorem dX10_at_6 : decode cX10_at 6 = .ok (.ifCond .le 21, 3) := by decide +kernel
theorem dX10_at_9 : decode cX10_at 9 = .ok (.aload_n 0, 1) := by decide +kernel
theorem dX10_at_10 : decode cX10_at 10 = .ok (.getfield 19, 3) := by decide +kernel
theorem dX10_at_13 : decode cX10_at 13 = .ok (.iload_n 2, 1) := by decide +kernel
theorem dX10_at_14 : decode cX10_at 14 = .ok (.iconst 1, 1) := by decide +kernel
theorem dX10_at_15 : decode cX10_at 15 = .ok (.isub, 1) := by decide +kernel
theorem dX10_at_16 : decode cX10_at 16 = .ok (.iaload, 1) := by decide +kernel
theorem dX10_at_17 : decode cX10_at 17 = .ok (.iload_n 1, 1) := by decide +kernel
theorem dX10_at_18 : decode cX10_at 18 = .ok (.if_icmp .le 9, 3) := by decide +kernel
theorem dX10_at_21 : decode cX10_at 21 = .ok (.iinc 2 (-1), 3) := by decide +kernel
theorem dX10_at_24 : decode cX10_at 24 = .ok (.goto (-19), 3) := by decide +kernel
theorem dX10_at_27 : decode cX10_at 27 = .ok (.aload_n 0, 1) := by decide +kernel
theorem dX10_at_28 : decode cX10_at 28 = .ok (.getfield 28, 3) := by decide +kernel
theorem dX10_at_31 : decode cX10_at 31 = .ok (.iload_n 2, 1) := by decide +kernel
theorem dX10_at_32 : decode cX10_at 32 = .ok (.laload, 1) := by decide +kernel
theorem dX10_at_33 : decode cX10_at 33 = .ok (.lreturn, 1) := by decide +kernel
theorem dX11_init_0 : decode cX11_init 0 = .ok (.aload_n 0, 1) := by decide +kernel
theorem dX11_init_1 : decode cX11_init 1 = .ok (.invokespecial 1, 3) := by decide +kernel
theorem dX11_init_4 : decode cX11_init 4 = .ok (.aload_n 0, 1) := by decide +kernel
theorem dX11_init_5 : decode cX11_init 5 = .ok (.iconst (-1), 1) := by decide +kernel
theorem dX11_init_6 : decode cX11_init 6 = .ok (.putfield 7, 3) := by decide +kernel
theorem dX11_init_9 : decode cX11_init 9 = .ok (.aload_n 0, 1) := by decide +kernel
theorem dX11_init_10 : decode cX11_init 10 = .ok (.iconst 1, 1) := by decide +kernel
theorem dX11_init_11 : decode cX11_init 11 = .ok (.putfield 13, 3) := by decide +kernel
theorem dX11_init_14 : decode cX11_init 14 = .ok (.return_, 1) := by decide +kernel
theorem dX11_meets_0 : decode cX11_meets 0 = .ok (.aload_n 0, 1) := by decide +kernel
theorem dX11_meets_1 : decode cX11_meets 1 = .ok (.getfield 17, 3) := by decide +kernel
theorem dX11_meets_4 : decode cX11_meets 4 = .ok (.ifCond .eq 19, 3) := by decide +kernel
theorem dX11_meets_7 : decode cX11_meets 7 = .ok (.aload_n 0, 1) := by decide +kernel
theorem dX11_meets_8 : decode cX11_meets 8 = .ok (.getfield 20, 3) := by decide +kernel
theorem dX11_meets_11 : decode cX11_meets 11 = .ok (.getfield 24, 3) := by decide +kernel
theorem dX11_meets_14 : decode cX11_meets 14 = .ok (.iload_n 1, 1) := by decide +kernel
theorem dX11_meets_15 : decode cX11_meets 15 = .ok (.iaload, 1) := by decide +kernel
theorem dX11_meets_16 : decode cX11_meets 16 = .ok (.aload_n 0, 1) := by decide +kernel
theorem dX11_meets_17 : decode cX11_meets 17 = .ok (.getfield 30, 3) := by decide +kernel
theorem dX11_meets_20 : decode cX11_meets 20 = .ok (.if_icmp .gt 7, 3) := by decide +kernel
theorem dX11_meets_23 : decode cX11_meets 23 = .ok (.iconst 1, 1) := by decide +kernel
theorem dX11_meets_24 : decode cX11_meets 24 = .ok (.goto 4, 3) := by decide +kernel
theorem dX11_meets_27 : decode cX11_meets 27 = .ok (.iconst 0, 1) := by decide +kernel
theorem dX11_meets_28 : decode cX11_meets 28 = .ok (.ireturn, 1) := by decide +kernel
theorem dX12_init_0 : decode cX12_init 0 = .ok (.aload_n 0, 1) := by decide +kernel
theorem dX12_init_1 : decode cX12_init 1 = .ok (.invokespecial 1, 3) := by decide +kernel
theorem dX12_init_4 : decode cX12_init 4 = .ok (.aload_n 0, 1) := by decide +kernel
theorem dX12_init_5 : decode cX12_init 5 = .ok (.iconst 5, 1) := by decide +kernel
theorem dX12_init_6 : decode cX12_init 6 = .ok (.anewarray 7, 3) := by decide +kernel
theorem dX12_init_9 : decode cX12_init 9 = .ok (.dup, 1) := by decide +kernel
theorem dX12_init_10 : decode cX12_init 10 = .ok (.iconst 0, 1) := by decide +kernel
theorem dX12_init_11 : decode cX12_init 11 = .ok (.new 7, 3) := by decide +kernel
theorem dX12_init_14 : decode cX12_init 14 = .ok (.dup, 1) := by decide +kernel
theorem dX12_init_15 : decode cX12_init 15 = .ok (.invokespecial 9, 3) := by decide +kernel
theorem dX12_init_18 : decode cX12_init 18 = .ok (.aastore, 1) := by decide +kernel
theorem dX12_init_19 : decode cX12_init 19 = .ok (.dup, 1) := by decide +kernel
theorem dX12_init_20 : decode cX12_init 20 = .ok (.iconst 1, 1) := by decide +kernel
theorem dX12_init_21 : decode cX12_init 21 = .ok (.new 7, 3) := by decide +kernel
theorem dX12_init_24 : decode cX12_init 24 = .ok (.dup, 1) := by decide +kernel
theorem dX12_init_25 : decode cX12_init 25 = .ok (.invokespecial 9, 3) := by decide +kernel
theorem dX12_init_28 : decode cX12_init 28 = .ok (.aastore, 1) := by decide +kernel
theorem dX12_init_29 : decode cX12_init 29 = .ok (.dup, 1) := by decide +kernel
theorem dX12_init_30 : decode cX12_init 30 = .ok (.iconst 2, 1) := by decide +kernel
theorem dX12_init_31 : decode cX12_init 31 = .ok (.new 7, 3) := by decide +kernel
theorem dX12_init_34 : decode cX12_init 34 = .ok (.dup, 1) := by decide +kernel
theorem dX12_init_35 : decode cX12_init 35 = .ok (.invokespecial 9, 3) := by decide +kernel
theorem dX12_init_38 : decode cX12_init 38 = .ok (.aastore, 1) := by decide +kernel
theorem dX12_init_39 : decode cX12_init 39 = .ok (.dup, 1) := by decide +kernel
theorem dX12_init_40 : decode cX12_init 40 = .ok (.iconst 3, 1) := by decide +kernel
theorem dX12_init_41 : decode cX12_init 41 = .ok (.new 7, 3) := by decide +kernel
theorem dX12_init_44 : decode cX12_init 44 = .ok (.dup, 1) := by decide +kernel
theorem dX12_init_45 : decode cX12_init 45 = .ok (.invokespecial 9, 3) := by decide +kernel
theorem dX12_init_48 : decode cX12_init 48 = .ok (.aastore, 1) := by decide +kernel
theorem dX12_init_49 : decode cX12_init 49 = .ok (.dup, 1) := by decide +kernel
theorem dX12_init_50 : decode cX12_init 50 = .ok (.iconst 4, 1) := by decide +kernel
theorem dX12_init_51 : decode cX12_init 51 = .ok (.new 7, 3) := by decide +kernel
theorem dX12_init_54 : decode cX12_init 54 = .ok (.dup, 1) := by decide +kernel
theorem dX12_init_55 : decode cX12_init 55 = .ok (.invokespecial 9, 3) := by decide +kernel
theorem dX12_init_58 : decode cX12_init 58 = .ok (.aastore, 1) := by decide +kernel
theorem dX12_init_59 : decode cX12_init 59 = .ok (.putfield 10, 3) := by decide +kernel
theorem dX12_init_62 : decode cX12_init 62 = .ok (.aload_n 0, 1) := by decide +kernel
theorem dX12_init_63 : decode cX12_init 63 = .ok (.bipush 6, 2) := by decide +kernel
theorem dX12_init_65 : decode cX12_init 65 = .ok (.anewarray 16, 3) := by decide +kernel
theorem dX12_init_68 : decode cX12_init 68 = .ok (.putfield 18, 3) := by decide +kernel
theorem dX12_init_71 : decode cX12_init 71 = .ok (.aload_n 0, 1) := by decide +kernel
theorem dX12_init_72 : decode cX12_init 72 = .ok (.bipush 8, 2) := by decide +kernel
theorem dX12_init_74 : decode cX12_init 74 = .ok (.newarray .int, 2) := by decide +kernel
theorem dX12_init_76 : decode cX12_init 76 = .ok (.putfield 22, 3) := by decide +kernel
theorem dX12_init_79 : decode cX12_init 79 = .ok (.return_, 1) := by decide +kernel
theorem dX12_put_0 : decode cX12_put 0 = .ok (.aload_n 1, 1) := by decide +kernel
theorem dX12_put_1 : decode cX12_put 1 = .ok (.getfield 26, 3) := by decide +kernel
theorem dX12_put_4 : decode cX12_put 4 = .ok (.iload_n 3, 1) := by decide +kernel
theorem dX12_put_5 : decode cX12_put 5 = .ok (.iload_n 2, 1) := by decide +kernel
theorem dX12_put_6 : decode cX12_put 6 = .ok (.iastore, 1) := by decide +kernel
theorem dX12_put_7 : decode cX12_put 7 = .ok (.aload_n 1, 1) := by decide +kernel
theorem dX12_put_8 : decode cX12_put 8 = .ok (.getfield 29, 3) := by decide +kernel
theorem dX12_put_11 : decode cX12_put 11 = .ok (.iload_n 2, 1) := by decide +kernel
theorem dX12_put_12 : decode cX12_put 12 = .ok (.iload_n 3, 1) := by decide +kernel
theorem dX12_put_13 : decode cX12_put 13 = .ok (.iastore, 1) := by decide +kernel
theorem dX12_put_14 : decode cX12_put 14 = .ok (.aload_n 0, 1) := by decide +kernel
theorem dX12_put_15 : decode cX12_put 15 = .ok (.dup, 1) := by decide +kernel
theorem dX12_put_16 : decode cX12_put 16 = .ok (.getfield 32, 3) := by decide +kernel
theorem dX12_put_19 : decode cX12_put 19 = .ok (.iconst 2, 1) := by decide +kernel
theorem dX12_put_20 : decode cX12_put 20 = .ok (.iadd, 1) := by decide +kernel
theorem dX12_put_21 : decode cX12_put 21 = .ok (.putfield 32, 3) := by decide +kernel
theorem dX12_put_24 : decode cX12_put 24 = .ok (.return_, 1) := by decide +kernel
theorem dX12_add_0 : decode cX12_add 0 = .ok (.aload_n 1, 1) := by decide +kernel
theorem dX12_add_1 : decode cX12_add 1 = .ok (.iload_n 2, 1) := by decide +kernel
theorem dX12_add_2 : decode cX12_add 2 = .ok (.invokevirtual 36, 3) := by decide +kernel
theorem dX12_add_5 : decode cX12_add 5 = .ok (.ifCond .eq 4, 3) := by decide +kernel
theorem dX12_add_8 : decode cX12_add 8 = .ok (.return_, 1) := by decide +kernel
theorem dX12_add_9 : decode cX12_add 9 = .ok (.aload_n 0, 1) := by decide +kernel
theorem dX12_add_10 : decode cX12_add 10 = .ok (.aload_n 1, 1) := by decide +kernel
theorem dX12_add_11 : decode cX12_add 11 = .ok (.iload_n 2, 1) := by decide +kernel
theorem dX12_add_12 : decode cX12_add 12 = .ok (.aload_n 1, 1) := by decide +kernel
theorem dX12_add_13 : decode cX12_add 13 = .ok (.getfield 40, 3) := by decide +kernel
theorem dX12_add_16 : decode cX12_add 16 = .ok (.invokevirtual 43, 3) := by decide +kernel
theorem dX12_add_19 : decode cX12_add 19 = .ok (.aload_n 1, 1) := by decide +kernel
theorem dX12_add_20 : decode cX12_add 20 = .ok (.dup, 1) := by decide +kernel
theorem dX12_add_21 : decode cX12_add 21 = .ok (.getfield 40, 3) := by decide +kernel
theorem dX12_add_24 : decode cX12_add 24 = .ok (.iconst 1, 1) := by decide +kernel
theorem dX12_add_25 : decode cX12_add 25 = .ok (.iadd, 1) := by decide +kernel
theorem dX12_add_26 : decode cX12_add 26 = .ok (.putfield 40, 3) := by decide +kernel
theorem dX12_add_29 : decode cX12_add 29 = .ok (.aload_n 0, 1) := by decide +kernel
theorem dX12_add_30 : decode cX12_add 30 = .ok (.dup, 1) := by decide +kernel
theorem dX12_add_31 : decode cX12_add 31 = .ok (.getfield 47, 3) := by decide +kernel
theorem dX12_add_34 : decode cX12_add 34 = .ok (.iconst 1, 1) := by decide +kernel
theorem dX12_add_35 : decode cX12_add 35 = .ok (.iadd, 1) := by decide +kernel
theorem dX12_add_36 : decode cX12_add 36 = .ok (.putfield 47, 3) := by decide +kernel
theorem dX12_add_39 : decode cX12_add 39 = .ok (.aload_n 1, 1) := by decide +kernel
theorem dX12_add_40 : decode cX12_add 40 = .ok (.getfield 50, 3) := by decide +kernel
theorem dX12_add_43 : decode cX12_add 43 = .ok (.iload_n 2, 1) := by decide +kernel
theorem dX12_add_44 : decode cX12_add 44 = .ok (.aload_n 0, 1) := by decide +kernel
theorem dX12_add_45 : decode cX12_add 45 = .ok (.getfield 47, 3) := by decide +kernel
theorem dX12_add_48 : decode cX12_add 48 = .ok (.iastore, 1) := by decide +kernel
theorem dX12_add_49 : decode cX12_add 49 = .ok (.aload_n 1, 1) := by decide +kernel
theorem dX12_add_50 : decode cX12_add 50 = .ok (.aload_n 0, 1) := by decide +kernel
theorem dX12_add_51 : decode cX12_add 51 = .ok (.getfield 47, 3) := by decide +kernel
theorem dX12_add_54 : decode cX12_add 54 = .ok (.iload_n 2, 1) := by decide +kernel
theorem dX12_add_55 : decode cX12_add 55 = .ok (.iconst 0, 1) := by decide +kernel
theorem dX12_add_56 : decode cX12_add 56 = .ok (.invokevirtual 53, 3) := by decide +kernel
theorem dX12_add_59 : decode cX12_add 59 = .ok (.return_, 1) := by decide +kernel
theorem dX12_remove_0 : decode cX12_remove 0 = .ok (.aload_n 1, 1) := by decide +kernel
theorem dX12_remove_1 : decode cX12_remove 1 = .ok (.iload_n 2, 1) := by decide +kernel
theorem dX12_remove_2 : decode cX12_remove 2 = .ok (.invokevirtual 36, 3) := by decide +kernel
theorem dX12_remove_5 : decode cX12_remove 5 = .ok (.ifCond .ne 5, 3) := by decide +kernel
theorem dX12_remove_8 : decode cX12_remove 8 = .ok (.iconst 0, 1) := by decide +kernel
theorem dX12_remove_9 : decode cX12_remove 9 = .ok (.ireturn, 1) := by decide +kernel
theorem dX12_remove_10 : decode cX12_remove 10 = .ok (.aload_n 1, 1) := by decide +kernel
theorem dX12_remove_11 : decode cX12_remove 11 = .ok (.getfield 29, 3) := by decide +kernel
theorem dX12_remove_14 : decode cX12_remove 14 = .ok (.iload_n 2, 1) := by decide +kernel
theorem dX12_remove_15 : decode cX12_remove 15 = .ok (.iaload, 1) := by decide +kernel
theorem dX12_remove_16 : decode cX12_remove 16 = .ok (.istore_n 3, 1) := by decide +kernel
theorem dX12_remove_17 : decode cX12_remove 17 = .ok (.bipush 6, 2) := by decide +kernel
theorem dX12_remove_19 : decode cX12_remove 19 = .ok (.newarray .boolean, 2) := by decide +kernel
theorem dX12_remove_21 : decode cX12_remove 21 = .ok (.astore 4, 2) := by decide +kernel
theorem dX12_remove_23 : decode cX12_remove 23 = .ok (.iconst 0, 1) := by decide +kernel
theorem dX12_remove_24 : decode cX12_remove 24 = .ok (.istore 5, 2) := by decide +kernel
theorem dX12_remove_26 : decode cX12_remove 26 = .ok (.iload 5, 2) := by decide +kernel
theorem dX12_remove_28 : decode cX12_remove 28 = .ok (.bipush 6, 2) := by decide +kernel
theorem dX12_remove_30 : decode cX12_remove 30 = .ok (.if_icmp .ge 192, 3) := by decide +kernel
theorem dX12_remove_33 : decode cX12_remove 33 = .ok (.iconst (-1), 1) := by decide +kernel
theorem dX12_remove_34 : decode cX12_remove 34 = .ok (.istore 6, 2) := by decide +kernel
theorem dX12_remove_36 : decode cX12_remove 36 = .ok (.iconst 5, 1) := by decide +kernel
theorem dX12_remove_37 : decode cX12_remove 37 = .ok (.istore 7, 2) := by decide +kernel
theorem dX12_remove_39 : decode cX12_remove 39 = .ok (.iload 7, 2) := by decide +kernel
theorem dX12_remove_41 : decode cX12_remove 41 = .ok (.ifCond .lt 98, 3) := by decide +kernel
theorem dX12_remove_44 : decode cX12_remove 44 = .ok (.aload_n 0, 1) := by decide +kernel
theorem dX12_remove_45 : decode cX12_remove 45 = .ok (.getfield 18, 3) := by decide +kernel
theorem dX12_remove_48 : decode cX12_remove 48 = .ok (.iload 7, 2) := by decide +kernel
theorem dX12_remove_50 : decode cX12_remove 50 = .ok (.aaload, 1) := by decide +kernel
theorem dX12_remove_51 : decode cX12_remove 51 = .ok (.ifnull 42, 3) := by decide +kernel
theorem dX12_remove_54 : decode cX12_remove 54 = .ok (.aload_n 0, 1) := by decide +kernel
theorem dX12_remove_55 : decode cX12_remove 55 = .ok (.getfield 18, 3) := by decide +kernel
theorem dX12_remove_58 : decode cX12_remove 58 = .ok (.iload 7, 2) := by decide +kernel
theorem dX12_remove_60 : decode cX12_remove 60 = .ok (.aaload, 1) := by decide +kernel
theorem dX12_remove_61 : decode cX12_remove 61 = .ok (.getfield 57, 3) := by decide +kernel
theorem dX12_remove_64 : decode cX12_remove 64 = .ok (.ifCond .eq 29, 3) := by decide +kernel
theorem dX12_remove_67 : decode cX12_remove 67 = .ok (.aload_n 0, 1) := by decide +kernel
theorem dX12_remove_68 : decode cX12_remove 68 = .ok (.getfield 18, 3) := by decide +kernel
theorem dX12_remove_71 : decode cX12_remove 71 = .ok (.iload 7, 2) := by decide +kernel
theorem dX12_remove_73 : decode cX12_remove 73 = .ok (.aaload, 1) := by decide +kernel
theorem dX12_remove_74 : decode cX12_remove 74 = .ok (.getfield 61, 3) := by decide +kernel
theorem dX12_remove_77 : decode cX12_remove 77 = .ok (.aload_n 1, 1) := by decide +kernel
theorem dX12_remove_78 : decode cX12_remove 78 = .ok (.if_acmp .ne 15, 3) := by decide +kernel
theorem dX12_remove_81 : decode cX12_remove 81 = .ok (.aload 4, 2) := by decide +kernel
theorem dX12_remove_83 : decode cX12_remove 83 = .ok (.iload 7, 2) := by decide +kernel
theorem dX12_remove_85 : decode cX12_remove 85 = .ok (.baload, 1) := by decide +kernel
theorem dX12_remove_86 : decode cX12_remove 86 = .ok (.ifCond .ne 7, 3) := by decide +kernel
theorem dX12_remove_89 : decode cX12_remove 89 = .ok (.iconst 1, 1) := by decide +kernel
theorem dX12_remove_90 : decode cX12_remove 90 = .ok (.goto 4, 3) := by decide +kernel
theorem dX12_remove_93 : decode cX12_remove 93 = .ok (.iconst 0, 1) := by decide +kernel
theorem dX12_remove_94 : decode cX12_remove 94 = .ok (.istore 8, 2) := by decide +kernel
theorem dX12_remove_96 : decode cX12_remove 96 = .ok (.iload 8, 2) := by decide +kernel
theorem dX12_remove_98 : decode cX12_remove 98 = .ok (.ifCond .eq 35, 3) := by decide +kernel
theorem dX12_remove_101 : decode cX12_remove 101 = .ok (.iload 6, 2) := by decide +kernel
theorem dX12_remove_103 : decode cX12_remove 103 = .ok (.ifCond .lt 26, 3) := by decide +kernel
theorem dX12_remove_106 : decode cX12_remove 106 = .ok (.aload_n 0, 1) := by decide +kernel
theorem dX12_remove_107 : decode cX12_remove 107 = .ok (.getfield 18, 3) := by decide +kernel
theorem dX12_remove_110 : decode cX12_remove 110 = .ok (.iload 7, 2) := by decide +kernel
theorem dX12_remove_112 : decode cX12_remove 112 = .ok (.aaload, 1) := by decide +kernel
theorem dX12_remove_113 : decode cX12_remove 113 = .ok (.getfield 65, 3) := by decide +kernel
theorem dX12_remove_116 : decode cX12_remove 116 = .ok (.aload_n 0, 1) := by decide +kernel
theorem dX12_remove_117 : decode cX12_remove 117 = .ok (.getfield 18, 3) := by decide +kernel
theorem dX12_remove_120 : decode cX12_remove 120 = .ok (.iload 6, 2) := by decide +kernel
theorem dX12_remove_122 : decode cX12_remove 122 = .ok (.aaload, 1) := by decide +kernel
theorem dX12_remove_123 : decode cX12_remove 123 = .ok (.getfield 65, 3) := by decide +kernel
theorem dX12_remove_126 : decode cX12_remove 126 = .ok (.if_icmp .gt 7, 3) := by decide +kernel
theorem dX12_remove_129 : decode cX12_remove 129 = .ok (.iload 7, 2) := by decide +kernel
theorem dX12_remove_131 : decode cX12_remove 131 = .ok (.istore 6, 2) := by decide +kernel
theorem dX12_remove_133 : decode cX12_remove 133 = .ok (.iinc 7 (-1), 3) := by decide +kernel
theorem dX12_remove_136 : decode cX12_remove 136 = .ok (.goto (-97), 3) := by decide +kernel
theorem dX12_remove_139 : decode cX12_remove 139 = .ok (.iload 6, 2) := by decide +kernel
theorem dX12_remove_141 : decode cX12_remove 141 = .ok (.ifCond .ge 6, 3) := by decide +kernel
theorem dX12_remove_144 : decode cX12_remove 144 = .ok (.goto 78, 3) := by decide +kernel
theorem dX12_remove_147 : decode cX12_remove 147 = .ok (.aload 4, 2) := by decide +kernel
theorem dX12_remove_149 : decode cX12_remove 149 = .ok (.iload 6, 2) := by decide +kernel
theorem dX12_remove_151 : decode cX12_remove 151 = .ok (.iconst 1, 1) := by decide +kernel
theorem dX12_remove_152 : decode cX12_remove 152 = .ok (.bastore, 1) := by decide +kernel
theorem dX12_remove_153 : decode cX12_remove 153 = .ok (.aload_n 0, 1) := by decide +kernel
theorem dX12_remove_154 : decode cX12_remove 154 = .ok (.getfield 18, 3) := by decide +kernel
theorem dX12_remove_157 : decode cX12_remove 157 = .ok (.iload 6, 2) := by decide +kernel
theorem dX12_remove_159 : decode cX12_remove 159 = .ok (.aaload, 1) := by decide +kernel
theorem dX12_remove_160 : decode cX12_remove 160 = .ok (.astore 7, 2) := by decide +kernel
theorem dX12_remove_162 : decode cX12_remove 162 = .ok (.aload 7, 2) := by decide +kernel
theorem dX12_remove_164 : decode cX12_remove 164 = .ok (.getfield 65, 3) := by decide +kernel
theorem dX12_remove_167 : decode cX12_remove 167 = .ok (.iload_n 3, 1) := by decide +kernel
theorem dX12_remove_168 : decode cX12_remove 168 = .ok (.if_icmp .gt 6, 3) := by decide +kernel
theorem dX12_remove_171 : decode cX12_remove 171 = .ok (.goto 45, 3) := by decide +kernel
theorem dX12_remove_174 : decode cX12_remove 174 = .ok (.aload 7, 2) := by decide +kernel
theorem dX12_remove_176 : decode cX12_remove 176 = .ok (.dup, 1) := by decide +kernel
theorem dX12_remove_177 : decode cX12_remove 177 = .ok (.getfield 65, 3) := by decide +kernel
theorem dX12_remove_180 : decode cX12_remove 180 = .ok (.iconst 1, 1) := by decide +kernel
theorem dX12_remove_181 : decode cX12_remove 181 = .ok (.isub, 1) := by decide +kernel
theorem dX12_remove_182 : decode cX12_remove 182 = .ok (.putfield 65, 3) := by decide +kernel
theorem dX12_remove_185 : decode cX12_remove 185 = .ok (.aload 7, 2) := by decide +kernel
theorem dX12_remove_187 : decode cX12_remove 187 = .ok (.getfield 65, 3) := by decide +kernel
theorem dX12_remove_190 : decode cX12_remove 190 = .ok (.iload_n 3, 1) := by decide +kernel
theorem dX12_remove_191 : decode cX12_remove 191 = .ok (.if_icmp .eq 19, 3) := by decide +kernel
theorem dX12_remove_194 : decode cX12_remove 194 = .ok (.aload_n 0, 1) := by decide +kernel
theorem dX12_remove_195 : decode cX12_remove 195 = .ok (.aload_n 1, 1) := by decide +kernel
theorem dX12_remove_196 : decode cX12_remove 196 = .ok (.aload_n 1, 1) := by decide +kernel
theorem dX12_remove_197 : decode cX12_remove 197 = .ok (.getfield 26, 3) := by decide +kernel
theorem dX12_remove_200 : decode cX12_remove 200 = .ok (.aload 7, 2) := by decide +kernel
theorem dX12_remove_202 : decode cX12_remove 202 = .ok (.getfield 65, 3) := by decide +kernel
theorem dX12_remove_205 : decode cX12_remove 205 = .ok (.iaload, 1) := by decide +kernel
theorem dX12_remove_206 : decode cX12_remove 206 = .ok (.iload_n 3, 1) := by decide +kernel
theorem dX12_remove_207 : decode cX12_remove 207 = .ok (.invokevirtual 43, 3) := by decide +kernel
theorem dX12_remove_210 : decode cX12_remove 210 = .ok (.aload 7, 2) := by decide +kernel
theorem dX12_remove_212 : decode cX12_remove 212 = .ok (.getfield 65, 3) := by decide +kernel
theorem dX12_remove_215 : decode cX12_remove 215 = .ok (.istore_n 3, 1) := by decide +kernel
theorem dX12_remove_216 : decode cX12_remove 216 = .ok (.iinc 5 1, 3) := by decide +kernel
theorem dX12_remove_219 : decode cX12_remove 219 = .ok (.goto (-193), 3) := by decide +kernel
theorem dX12_remove_222 : decode cX12_remove 222 = .ok (.aload_n 1, 1) := by decide +kernel
theorem dX12_remove_223 : decode cX12_remove 223 = .ok (.dup, 1) := by decide +kernel
theorem dX12_remove_224 : decode cX12_remove 224 = .ok (.getfield 40, 3) := by decide +kernel
theorem dX12_remove_227 : decode cX12_remove 227 = .ok (.iconst 1, 1) := by decide +kernel
theorem dX12_remove_228 : decode cX12_remove 228 = .ok (.isub, 1) := by decide +kernel
theorem dX12_remove_229 : decode cX12_remove 229 = .ok (.putfield 40, 3) := by decide +kernel
theorem dX12_remove_232 : decode cX12_remove 232 = .ok (.aload_n 1, 1) := by decide +kernel
theorem dX12_remove_233 : decode cX12_remove 233 = .ok (.getfield 40, 3) := by decide +kernel
theorem dX12_remove_236 : decode cX12_remove 236 = .ok (.iload_n 3, 1) := by decide +kernel
theorem dX12_remove_237 : decode cX12_remove 237 = .ok (.if_icmp .eq 18, 3) := by decide +kernel
theorem dX12_remove_240 : decode cX12_remove 240 = .ok (.aload_n 0, 1) := by decide +kernel
theorem dX12_remove_241 : decode cX12_remove 241 = .ok (.aload_n 1, 1) := by decide +kernel
theorem dX12_remove_242 : decode cX12_remove 242 = .ok (.aload_n 1, 1) := by decide +kernel
theorem dX12_remove_243 : decode cX12_remove 243 = .ok (.getfield 26, 3) := by decide +kernel
theorem dX12_remove_246 : decode cX12_remove 246 = .ok (.aload_n 1, 1) := by decide +kernel
theorem dX12_remove_247 : decode cX12_remove 247 = .ok (.getfield 40, 3) := by decide +kernel
theorem dX12_remove_250 : decode cX12_remove 250 = .ok (.iaload, 1) := by decide +kernel
theorem dX12_remove_251 : decode cX12_remove 251 = .ok (.iload_n 3, 1) := by decide +kernel
theorem dX12_remove_252 : decode cX12_remove 252 = .ok (.invokevirtual 43, 3) := by decide +kernel
theorem dX12_remove_255 : decode cX12_remove 255 = .ok (.aload_n 0, 1) := by decide +kernel
theorem dX12_remove_256 : decode cX12_remove 256 = .ok (.dup, 1) := by decide +kernel
theorem dX12_remove_257 : decode cX12_remove 257 = .ok (.getfield 47, 3) := by decide +kernel
theorem dX12_remove_260 : decode cX12_remove 260 = .ok (.iconst 1, 1) := by decide +kernel
theorem dX12_remove_261 : decode cX12_remove 261 = .ok (.iadd, 1) := by decide +kernel
theorem dX12_remove_262 : decode cX12_remove 262 = .ok (.putfield 47, 3) := by decide +kernel
theorem dX12_remove_265 : decode cX12_remove 265 = .ok (.aload_n 1, 1) := by decide +kernel
theorem dX12_remove_266 : decode cX12_remove 266 = .ok (.aload_n 0, 1) := by decide +kernel
theorem dX12_remove_267 : decode cX12_remove 267 = .ok (.getfield 47, 3) := by decide +kernel
theorem dX12_remove_270 : decode cX12_remove 270 = .ok (.iload_n 2, 1) := by decide +kernel
theorem dX12_remove_271 : decode cX12_remove 271 = .ok (.iconst 1, 1) := by decide +kernel
theorem dX12_remove_272 : decode cX12_remove 272 = .ok (.invokevirtual 53, 3) := by decide +kernel
theorem dX12_remove_275 : decode cX12_remove 275 = .ok (.iconst 1, 1) := by decide +kernel
theorem dX12_remove_276 : decode cX12_remove 276 = .ok (.ireturn, 1) := by decide +kernel
theorem dX12_clear_0 : decode cX12_clear 0 = .ok (.aload_n 1, 1) := by decide +kernel
theorem dX12_clear_1 : decode cX12_clear 1 = .ok (.getfield 40, 3) := by decide +kernel
theorem dX12_clear_4 : decode cX12_clear 4 = .ok (.istore_n 2, 1) := by decide +kernel
theorem dX12_clear_5 : decode cX12_clear 5 = .ok (.aload_n 0, 1) := by decide +kernel
theorem dX12_clear_6 : decode cX12_clear 6 = .ok (.dup, 1) := by decide +kernel
theorem dX12_clear_7 : decode cX12_clear 7 = .ok (.getfield 32, 3) := by decide +kernel
theorem dX12_clear_10 : decode cX12_clear 10 = .ok (.iconst 1, 1) := by decide +kernel
theorem dX12_clear_11 : decode cX12_clear 11 = .ok (.iadd, 1) := by decide +kernel
theorem dX12_clear_12 : decode cX12_clear 12 = .ok (.putfield 32, 3) := by decide +kernel
theorem dX12_clear_15 : decode cX12_clear 15 = .ok (.aload_n 1, 1) := by decide +kernel
theorem dX12_clear_16 : decode cX12_clear 16 = .ok (.iconst 0, 1) := by decide +kernel
theorem dX12_clear_17 : decode cX12_clear 17 = .ok (.putfield 40, 3) := by decide +kernel
theorem dX12_clear_20 : decode cX12_clear 20 = .ok (.aload_n 1, 1) := by decide +kernel
theorem dX12_clear_21 : decode cX12_clear 21 = .ok (.dup, 1) := by decide +kernel
theorem dX12_clear_22 : decode cX12_clear 22 = .ok (.getfield 68, 3) := by decide +kernel
theorem dX12_clear_25 : decode cX12_clear 25 = .ok (.iconst 1, 1) := by decide +kernel
theorem dX12_clear_26 : decode cX12_clear 26 = .ok (.iadd, 1) := by decide +kernel
theorem dX12_clear_27 : decode cX12_clear 27 = .ok (.putfield 68, 3) := by decide +kernel
theorem dX12_clear_30 : decode cX12_clear 30 = .ok (.iload_n 2, 1) := by decide +kernel
theorem dX12_clear_31 : decode cX12_clear 31 = .ok (.ifCond .le 23, 3) := by decide +kernel
theorem dX12_clear_34 : decode cX12_clear 34 = .ok (.aload_n 0, 1) := by decide +kernel
theorem dX12_clear_35 : decode cX12_clear 35 = .ok (.dup, 1) := by decide +kernel
theorem dX12_clear_36 : decode cX12_clear 36 = .ok (.getfield 47, 3) := by decide +kernel
theorem dX12_clear_39 : decode cX12_clear 39 = .ok (.iconst 1, 1) := by decide +kernel
theorem dX12_clear_40 : decode cX12_clear 40 = .ok (.iadd, 1) := by decide +kernel
theorem dX12_clear_41 : decode cX12_clear 41 = .ok (.putfield 47, 3) := by decide +kernel
theorem dX12_clear_44 : decode cX12_clear 44 = .ok (.aload_n 1, 1) := by decide +kernel
theorem dX12_clear_45 : decode cX12_clear 45 = .ok (.aload_n 0, 1) := by decide +kernel
theorem dX12_clear_46 : decode cX12_clear 46 = .ok (.getfield 47, 3) := by decide +kernel
theorem dX12_clear_49 : decode cX12_clear 49 = .ok (.iconst (-1), 1) := by decide +kernel
theorem dX12_clear_50 : decode cX12_clear 50 = .ok (.iconst 2, 1) := by decide +kernel
theorem dX12_clear_51 : decode cX12_clear 51 = .ok (.invokevirtual 53, 3) := by decide +kernel
theorem dX12_clear_54 : decode cX12_clear 54 = .ok (.iconst 0, 1) := by decide +kernel
theorem dX12_clear_55 : decode cX12_clear 55 = .ok (.istore_n 3, 1) := by decide +kernel
theorem dX12_clear_56 : decode cX12_clear 56 = .ok (.iload_n 3, 1) := by decide +kernel
theorem dX12_clear_57 : decode cX12_clear 57 = .ok (.bipush 6, 2) := by decide +kernel
theorem dX12_clear_59 : decode cX12_clear 59 = .ok (.if_icmp .ge 41, 3) := by decide +kernel
theorem dX12_clear_62 : decode cX12_clear 62 = .ok (.aload_n 0, 1) := by decide +kernel
theorem dX12_clear_63 : decode cX12_clear 63 = .ok (.getfield 18, 3) := by decide +kernel
theorem dX12_clear_66 : decode cX12_clear 66 = .ok (.iload_n 3, 1) := by decide +kernel
theorem dX12_clear_67 : decode cX12_clear 67 = .ok (.aaload, 1) := by decide +kernel
theorem dX12_clear_68 : decode cX12_clear 68 = .ok (.ifnull 26, 3) := by decide +kernel
theorem dX12_clear_71 : decode cX12_clear 71 = .ok (.aload_n 0, 1) := by decide +kernel
theorem dX12_clear_72 : decode cX12_clear 72 = .ok (.getfield 18, 3) := by decide +kernel
theorem dX12_clear_75 : decode cX12_clear 75 = .ok (.iload_n 3, 1) := by decide +kernel
theorem dX12_clear_76 : decode cX12_clear 76 = .ok (.aaload, 1) := by decide +kernel
theorem dX12_clear_77 : decode cX12_clear 77 = .ok (.getfield 61, 3) := by decide +kernel
theorem dX12_clear_80 : decode cX12_clear 80 = .ok (.aload_n 1, 1) := by decide +kernel
theorem dX12_clear_81 : decode cX12_clear 81 = .ok (.if_acmp .ne 13, 3) := by decide +kernel
theorem dX12_clear_84 : decode cX12_clear 84 = .ok (.aload_n 0, 1) := by decide +kernel
theorem dX12_clear_85 : decode cX12_clear 85 = .ok (.getfield 18, 3) := by decide +kernel
theorem dX12_clear_88 : decode cX12_clear 88 = .ok (.iload_n 3, 1) := by decide +kernel
theorem dX12_clear_89 : decode cX12_clear 89 = .ok (.aaload, 1) := by decide +kernel
theorem dX12_clear_90 : decode cX12_clear 90 = .ok (.iconst 0, 1) := by decide +kernel
theorem dX12_clear_91 : decode cX12_clear 91 = .ok (.putfield 57, 3) := by decide +kernel
theorem dX12_clear_94 : decode cX12_clear 94 = .ok (.iinc 3 1, 3) := by decide +kernel
theorem dX12_clear_97 : decode cX12_clear 97 = .ok (.goto (-41), 3) := by decide +kernel
theorem dX12_clear_100 : decode cX12_clear 100 = .ok (.iload_n 2, 1) := by decide +kernel
theorem dX12_clear_101 : decode cX12_clear 101 = .ok (.ireturn, 1) := by decide +kernel
theorem dX12_step_0 : decode cX12_step 0 = .ok (.aload_n 1, 1) := by decide +kernel
theorem dX12_step_1 : decode cX12_step 1 = .ok (.getfield 57, 3) := by decide +kernel
theorem dX12_step_4 : decode cX12_step 4 = .ok (.ifCond .eq 75, 3) := by decide +kernel
theorem dX12_step_7 : decode cX12_step 7 = .ok (.aload_n 1, 1) := by decide +kernel
theorem dX12_step_8 : decode cX12_step 8 = .ok (.getfield 65, 3) := by decide +kernel
theorem dX12_step_11 : decode cX12_step 11 = .ok (.aload_n 1, 1) := by decide +kernel
theorem dX12_step_12 : decode cX12_step 12 = .ok (.getfield 61, 3) := by decide +kernel
theorem dX12_step_15 : decode cX12_step 15 = .ok (.getfield 40, 3) := by decide +kernel
theorem dX12_step_18 : decode cX12_step 18 = .ok (.if_icmp .ge 61, 3) := by decide +kernel
theorem dX12_step_21 : decode cX12_step 21 = .ok (.aload_n 1, 1) := by decide +kernel
theorem dX12_step_22 : decode cX12_step 22 = .ok (.getfield 61, 3) := by decide +kernel
theorem dX12_step_25 : decode cX12_step 25 = .ok (.getfield 26, 3) := by decide +kernel
theorem dX12_step_28 : decode cX12_step 28 = .ok (.aload_n 1, 1) := by decide +kernel
theorem dX12_step_29 : decode cX12_step 29 = .ok (.dup, 1) := by decide +kernel
theorem dX12_step_30 : decode cX12_step 30 = .ok (.getfield 65, 3) := by decide +kernel
theorem dX12_step_33 : decode cX12_step 33 = .ok (.dup_x1, 1) := by decide +kernel
theorem dX12_step_34 : decode cX12_step 34 = .ok (.iconst 1, 1) := by decide +kernel
theorem dX12_step_35 : decode cX12_step 35 = .ok (.iadd, 1) := by decide +kernel
theorem dX12_step_36 : decode cX12_step 36 = .ok (.putfield 65, 3) := by decide +kernel
theorem dX12_step_39 : decode cX12_step 39 = .ok (.iaload, 1) := by decide +kernel
theorem dX12_step_40 : decode cX12_step 40 = .ok (.istore_n 2, 1) := by decide +kernel
theorem dX12_step_41 : decode cX12_step 41 = .ok (.aload_n 0, 1) := by decide +kernel
theorem dX12_step_42 : decode cX12_step 42 = .ok (.dup, 1) := by decide +kernel
theorem dX12_step_43 : decode cX12_step 43 = .ok (.getfield 32, 3) := by decide +kernel
theorem dX12_step_46 : decode cX12_step 46 = .ok (.iconst 1, 1) := by decide +kernel
theorem dX12_step_47 : decode cX12_step 47 = .ok (.iadd, 1) := by decide +kernel
theorem dX12_step_48 : decode cX12_step 48 = .ok (.putfield 32, 3) := by decide +kernel
theorem dX12_step_51 : decode cX12_step 51 = .ok (.aload_n 1, 1) := by decide +kernel
theorem dX12_step_52 : decode cX12_step 52 = .ok (.iload_n 2, 1) := by decide +kernel
theorem dX12_step_53 : decode cX12_step 53 = .ok (.invokevirtual 71, 3) := by decide +kernel
theorem dX12_step_56 : decode cX12_step 56 = .ok (.ifCond .ne 6, 3) := by decide +kernel
theorem dX12_step_59 : decode cX12_step 59 = .ok (.goto (-59), 3) := by decide +kernel
theorem dX12_step_62 : decode cX12_step 62 = .ok (.aload_n 1, 1) := by decide +kernel
theorem dX12_step_63 : decode cX12_step 63 = .ok (.dup, 1) := by decide +kernel
theorem dX12_step_64 : decode cX12_step 64 = .ok (.getfield 74, 3) := by decide +kernel
theorem dX12_step_67 : decode cX12_step 67 = .ok (.iconst 1, 1) := by decide +kernel
theorem dX12_step_68 : decode cX12_step 68 = .ok (.iadd, 1) := by decide +kernel
theorem dX12_step_69 : decode cX12_step 69 = .ok (.putfield 74, 3) := by decide +kernel
theorem dX12_step_72 : decode cX12_step 72 = .ok (.aload_n 1, 1) := by decide +kernel
theorem dX12_step_73 : decode cX12_step 73 = .ok (.iload_n 2, 1) := by decide +kernel
theorem dX12_step_74 : decode cX12_step 74 = .ok (.putfield 77, 3) := by decide +kernel
theorem dX12_step_77 : decode cX12_step 77 = .ok (.iload_n 2, 1) := by decide +kernel
theorem dX12_step_78 : decode cX12_step 78 = .ok (.ireturn, 1) := by decide +kernel
theorem dX12_step_79 : decode cX12_step 79 = .ok (.aload_n 1, 1) := by decide +kernel
theorem dX12_step_80 : decode cX12_step 80 = .ok (.iconst 0, 1) := by decide +kernel
theorem dX12_step_81 : decode cX12_step 81 = .ok (.putfield 57, 3) := by decide +kernel
theorem dX12_step_84 : decode cX12_step 84 = .ok (.iconst (-1), 1) := by decide +kernel
theorem dX12_step_85 : decode cX12_step 85 = .ok (.ireturn, 1) := by decide +kernel
theorem dX12_cursors_0 : decode cX12_cursors 0 = .ok (.iconst 0, 1) := by decide +kernel
theorem dX12_cursors_1 : decode cX12_cursors 1 = .ok (.istore_n 1, 1) := by decide +kernel
theorem dX12_cursors_2 : decode cX12_cursors 2 = .ok (.iconst 0, 1) := by decide +kernel
theorem dX12_cursors_3 : decode cX12_cursors 3 = .ok (.istore_n 2, 1) := by decide +kernel
theorem dX12_cursors_4 : decode cX12_cursors 4 = .ok (.iload_n 2, 1) := by decide +kernel
theorem dX12_cursors_5 : decode cX12_cursors 5 = .ok (.bipush 6, 2) := by decide +kernel
theorem dX12_cursors_7 : decode cX12_cursors 7 = .ok (.if_icmp .ge 26, 3) := by decide +kernel
theorem dX12_cursors_10 : decode cX12_cursors 10 = .ok (.iload_n 1, 1) := by decide +kernel
theorem dX12_cursors_11 : decode cX12_cursors 11 = .ok (.aload_n 0, 1) := by decide +kernel
theorem dX12_cursors_12 : decode cX12_cursors 12 = .ok (.getfield 18, 3) := by decide +kernel
theorem dX12_cursors_15 : decode cX12_cursors 15 = .ok (.iload_n 2, 1) := by decide +kernel
theorem dX12_cursors_16 : decode cX12_cursors 16 = .ok (.aaload, 1) := by decide +kernel
theorem dX12_cursors_17 : decode cX12_cursors 17 = .ok (.ifnonnull 7, 3) := by decide +kernel
theorem dX12_cursors_20 : decode cX12_cursors 20 = .ok (.iconst 0, 1) := by decide +kernel
theorem dX12_cursors_21 : decode cX12_cursors 21 = .ok (.goto 4, 3) := by decide +kernel
theorem dX12_cursors_24 : decode cX12_cursors 24 = .ok (.iconst 1, 1) := by decide +kernel
theorem dX12_cursors_25 : decode cX12_cursors 25 = .ok (.iadd, 1) := by decide +kernel
theorem dX12_cursors_26 : decode cX12_cursors 26 = .ok (.istore_n 1, 1) := by decide +kernel
theorem dX12_cursors_27 : decode cX12_cursors 27 = .ok (.iinc 2 1, 3) := by decide +kernel
theorem dX12_cursors_30 : decode cX12_cursors 30 = .ok (.goto (-26), 3) := by decide +kernel
theorem dX12_cursors_33 : decode cX12_cursors 33 = .ok (.iload_n 1, 1) := by decide +kernel
theorem dX12_cursors_34 : decode cX12_cursors 34 = .ok (.ireturn, 1) := by decide +kernel
theorem dL_feeds_0 : decode cL_feeds 0 = .ok (.iconst 0, 1) := by decide +kernel
theorem dL_feeds_1 : decode cL_feeds 1 = .ok (.istore_n 2, 1) := by decide +kernel
theorem dL_feeds_2 : decode cL_feeds 2 = .ok (.iconst 0, 1) := by decide +kernel
theorem dL_feeds_3 : decode cL_feeds 3 = .ok (.istore_n 3, 1) := by decide +kernel
theorem dL_feeds_4 : decode cL_feeds 4 = .ok (.iload_n 3, 1) := by decide +kernel
theorem dL_feeds_5 : decode cL_feeds 5 = .ok (.aload_n 1, 1) := by decide +kernel
theorem dL_feeds_6 : decode cL_feeds 6 = .ok (.invokevirtual 7, 3) := by decide +kernel
theorem dL_feeds_9 : decode cL_feeds 9 = .ok (.if_icmp .ge 105, 3) := by decide +kernel
theorem dL_feeds_12 : decode cL_feeds 12 = .ok (.iconst 5, 1) := by decide +kernel
theorem dL_feeds_13 : decode cL_feeds 13 = .ok (.newarray .int, 2) := by decide +kernel
theorem dL_feeds_15 : decode cL_feeds 15 = .ok (.astore 4, 2) := by decide +kernel
theorem dL_feeds_17 : decode cL_feeds 17 = .ok (.iconst 0, 1) := by decide +kernel
theorem dL_feeds_18 : decode cL_feeds 18 = .ok (.istore 5, 2) := by decide +kernel
theorem dL_feeds_20 : decode cL_feeds 20 = .ok (.iload 5, 2) := by decide +kernel
theorem dL_feeds_22 : decode cL_feeds 22 = .ok (.bipush 20, 2) := by decide +kernel
theorem dL_feeds_24 : decode cL_feeds 24 = .ok (.if_icmp .ge 51, 3) := by decide +kernel
theorem dL_feeds_27 : decode cL_feeds 27 = .ok (.aload 4, 2) := by decide +kernel
theorem dL_feeds_29 : decode cL_feeds 29 = .ok (.iload 5, 2) := by decide +kernel
theorem dL_feeds_31 : decode cL_feeds 31 = .ok (.iconst 4, 1) := by decide +kernel
theorem dL_feeds_32 : decode cL_feeds 32 = .ok (.idiv, 1) := by decide +kernel
theorem dL_feeds_33 : decode cL_feeds 33 = .ok (.aload 4, 2) := by decide +kernel
theorem dL_feeds_35 : decode cL_feeds 35 = .ok (.iload 5, 2) := by decide +kernel
theorem dL_feeds_37 : decode cL_feeds 37 = .ok (.iconst 4, 1) := by decide +kernel
theorem dL_feeds_38 : decode cL_feeds 38 = .ok (.idiv, 1) := by decide +kernel
theorem dL_feeds_39 : decode cL_feeds 39 = .ok (.iaload, 1) := by decide +kernel
theorem dL_feeds_40 : decode cL_feeds 40 = .ok (.bipush 8, 2) := by decide +kernel
theorem dL_feeds_42 : decode cL_feeds 42 = .ok (.ishl, 1) := by decide +kernel
theorem dL_feeds_43 : decode cL_feeds 43 = .ok (.iload_n 3, 1) := by decide +kernel
theorem dL_feeds_44 : decode cL_feeds 44 = .ok (.iload 5, 2) := by decide +kernel
theorem dL_feeds_46 : decode cL_feeds 46 = .ok (.iadd, 1) := by decide +kernel
theorem dL_feeds_47 : decode cL_feeds 47 = .ok (.aload_n 1, 1) := by decide +kernel
theorem dL_feeds_48 : decode cL_feeds 48 = .ok (.invokevirtual 7, 3) := by decide +kernel
theorem dL_feeds_51 : decode cL_feeds 51 = .ok (.if_icmp .ge 14, 3) := by decide +kernel
theorem dL_feeds_54 : decode cL_feeds 54 = .ok (.aload_n 1, 1) := by decide +kernel
theorem dL_feeds_55 : decode cL_feeds 55 = .ok (.iload_n 3, 1) := by decide +kernel
theorem dL_feeds_56 : decode cL_feeds 56 = .ok (.iload 5, 2) := by decide +kernel
theorem dL_feeds_58 : decode cL_feeds 58 = .ok (.iadd, 1) := by decide +kernel
theorem dL_feeds_59 : decode cL_feeds 59 = .ok (.invokevirtual 13, 3) := by decide +kernel
theorem dL_feeds_62 : decode cL_feeds 62 = .ok (.goto 5, 3) := by decide +kernel
theorem dL_feeds_65 : decode cL_feeds 65 = .ok (.bipush 32, 2) := by decide +kernel
theorem dL_feeds_67 : decode cL_feeds 67 = .ok (.ior, 1) := by decide +kernel
theorem dL_feeds_68 : decode cL_feeds 68 = .ok (.iastore, 1) := by decide +kernel
theorem dL_feeds_69 : decode cL_feeds 69 = .ok (.iinc 5 1, 3) := by decide +kernel
theorem dL_feeds_72 : decode cL_feeds 72 = .ok (.goto (-52), 3) := by decide +kernel
theorem dL_feeds_75 : decode cL_feeds 75 = .ok (.iinc 2 20, 3) := by decide +kernel
theorem dL_feeds_78 : decode cL_feeds 78 = .ok (.aload_n 0, 1) := by decide +kernel
theorem dL_feeds_79 : decode cL_feeds 79 = .ok (.aload 4, 2) := by decide +kernel
theorem dL_feeds_81 : decode cL_feeds 81 = .ok (.iconst 0, 1) := by decide +kernel
theorem dL_feeds_82 : decode cL_feeds 82 = .ok (.iaload, 1) := by decide +kernel
theorem dL_feeds_83 : decode cL_feeds 83 = .ok (.aload 4, 2) := by decide +kernel
theorem dL_feeds_85 : decode cL_feeds 85 = .ok (.iconst 1, 1) := by decide +kernel
theorem dL_feeds_86 : decode cL_feeds 86 = .ok (.iaload, 1) := by decide +kernel
theorem dL_feeds_87 : decode cL_feeds 87 = .ok (.aload 4, 2) := by decide +kernel
theorem dL_feeds_89 : decode cL_feeds 89 = .ok (.iconst 2, 1) := by decide +kernel
theorem dL_feeds_90 : decode cL_feeds 90 = .ok (.iaload, 1) := by decide +kernel
theorem dL_feeds_91 : decode cL_feeds 91 = .ok (.aload 4, 2) := by decide +kernel
theorem dL_feeds_93 : decode cL_feeds 93 = .ok (.iconst 3, 1) := by decide +kernel
theorem dL_feeds_94 : decode cL_feeds 94 = .ok (.iaload, 1) := by decide +kernel
theorem dL_feeds_95 : decode cL_feeds 95 = .ok (.aload 4, 2) := by decide +kernel
theorem dL_feeds_97 : decode cL_feeds 97 = .ok (.iconst 4, 1) := by decide +kernel
theorem dL_feeds_98 : decode cL_feeds 98 = .ok (.iaload, 1) := by decide +kernel
theorem dL_feeds_99 : decode cL_feeds 99 = .ok (.invokevirtual 17, 3) := by decide +kernel
theorem dL_feeds_102 : decode cL_feeds 102 = .ok (.iload_n 2, 1) := by decide +kernel
theorem dL_feeds_103 : decode cL_feeds 103 = .ok (.if_icmp .eq 5, 3) := by decide +kernel
theorem dL_feeds_106 : decode cL_feeds 106 = .ok (.iconst 0, 1) := by decide +kernel
theorem dL_feeds_107 : decode cL_feeds 107 = .ok (.ireturn, 1) := by decide +kernel
theorem dL_feeds_108 : decode cL_feeds 108 = .ok (.iinc 3 20, 3) := by decide +kernel
theorem dL_feeds_111 : decode cL_feeds 111 = .ok (.goto (-107), 3) := by decide +kernel
theorem dL_feeds_114 : decode cL_feeds 114 = .ok (.iconst 1, 1) := by decide +kernel
theorem dL_feeds_115 : decode cL_feeds 115 = .ok (.ireturn, 1) := by decide +kernel
theorem dL_draw_0 : decode cL_draw 0 = .ok (.aload_n 0, 1) := by decide +kernel
theorem dL_draw_1 : decode cL_draw 1 = .ok (.iconst 0, 1) := by decide +kernel
theorem dL_draw_2 : decode cL_draw 2 = .ok (.aload_n 0, 1) := by decide +kernel
theorem dL_draw_3 : decode cL_draw 3 = .ok (.iconst 0, 1) := by decide +kernel
theorem dL_draw_4 : decode cL_draw 4 = .ok (.iaload, 1) := by decide +kernel
theorem dL_draw_5 : decode cL_draw 5 = .ok (.ldc 23, 2) := by decide +kernel
theorem dL_draw_7 : decode cL_draw 7 = .ok (.imul, 1) := by decide +kernel
theorem dL_draw_8 : decode cL_draw 8 = .ok (.ldc 24, 2) := by decide +kernel
theorem dL_draw_10 : decode cL_draw 10 = .ok (.iadd, 1) := by decide +kernel
theorem dL_draw_11 : decode cL_draw 11 = .ok (.iastore, 1) := by decide +kernel
theorem dL_draw_12 : decode cL_draw 12 = .ok (.aload_n 0, 1) := by decide +kernel
theorem dL_draw_13 : decode cL_draw 13 = .ok (.iconst 0, 1) := by decide +kernel
theorem dL_draw_14 : decode cL_draw 14 = .ok (.iaload, 1) := by decide +kernel
theorem dL_draw_15 : decode cL_draw 15 = .ok (.bipush 8, 2) := by decide +kernel
theorem dL_draw_17 : decode cL_draw 17 = .ok (.iushr, 1) := by decide +kernel
theorem dL_draw_18 : decode cL_draw 18 = .ok (.iload_n 1, 1) := by decide +kernel
theorem dL_draw_19 : decode cL_draw 19 = .ok (.irem, 1) := by decide +kernel
theorem dL_draw_20 : decode cL_draw 20 = .ok (.ireturn, 1) := by decide +kernel
theorem dJ5_inflateIfNeededFor_a7421_0 : decode cJ5_inflateIfNeededFor_a7421 0 = .ok (.getstatic 18, 3) := by decide +kernel
theorem dJ5_inflateIfNeededFor_a7421_3 : decode cJ5_inflateIfNeededFor_a7421 3 = .ok (.ifCond .eq 18, 3) := by decide +kernel
theorem dJ5_inflateIfNeededFor_a7421_6 : decode cJ5_inflateIfNeededFor_a7421 6 = .ok (.aload_n 0, 1) := by decide +kernel
theorem dJ5_inflateIfNeededFor_a7421_7 : decode cJ5_inflateIfNeededFor_a7421 7 = .ok (.getfield 22, 3) := by decide +kernel
theorem dJ5_inflateIfNeededFor_a7421_10 : decode cJ5_inflateIfNeededFor_a7421 10 = .ok (.aload_n 1, 1) := by decide +kernel
theorem dJ5_inflateIfNeededFor_a7421_11 : decode cJ5_inflateIfNeededFor_a7421 11 = .ok (.invokevirtual 40, 3) := by decide +kernel
theorem dJ5_inflateIfNeededFor_a7421_14 : decode cJ5_inflateIfNeededFor_a7421 14 = .ok (.if_icmp .eq 7, 3) := by decide +kernel
theorem dJ5_inflateIfNeededFor_a7421_17 : decode cJ5_inflateIfNeededFor_a7421 17 = .ok (.aload_n 0, 1) := by decide +kernel
theorem dJ5_inflateIfNeededFor_a7421_18 : decode cJ5_inflateIfNeededFor_a7421 18 = .ok (.invokevirtual 195, 3) := by decide +kernel
theorem dJ5_inflateIfNeededFor_a7421_21 : decode cJ5_inflateIfNeededFor_a7421 21 = .ok (.return_, 1) := by decide +kernel
theorem dJ0_getBytes_840e7_0 : decode cJ0_getBytes_840e7 0 = .ok (.aload_n 0, 1) := by decide +kernel
theorem dJ0_getBytes_840e7_1 : decode cJ0_getBytes_840e7 1 = .ok (.invokevirtual 335, 3) := by decide +kernel
theorem dJ0_getBytes_840e7_4 : decode cJ0_getBytes_840e7 4 = .ok (.iload_n 3, 1) := by decide +kernel
theorem dJ0_getBytes_840e7_5 : decode cJ0_getBytes_840e7 5 = .ok (.if_icmp .ne 23, 3) := by decide +kernel
theorem dJ0_getBytes_840e7_8 : decode cJ0_getBytes_840e7 8 = .ok (.aload_n 0, 1) := by decide +kernel
theorem dJ0_getBytes_840e7_9 : decode cJ0_getBytes_840e7 9 = .ok (.getfield 9, 3) := by decide +kernel
theorem dJ0_getBytes_840e7_12 : decode cJ0_getBytes_840e7 12 = .ok (.iconst 0, 1) := by decide +kernel
theorem dJ0_getBytes_840e7_13 : decode cJ0_getBytes_840e7 13 = .ok (.aload_n 1, 1) := by decide +kernel
theorem dJ0_getBytes_840e7_14 : decode cJ0_getBytes_840e7 14 = .ok (.iload_n 2, 1) := by decide +kernel
theorem dJ0_getBytes_840e7_15 : decode cJ0_getBytes_840e7 15 = .ok (.iload_n 3, 1) := by decide +kernel
theorem dJ0_getBytes_840e7_16 : decode cJ0_getBytes_840e7 16 = .ok (.ishl, 1) := by decide +kernel
theorem dJ0_getBytes_840e7_17 : decode cJ0_getBytes_840e7 17 = .ok (.aload_n 0, 1) := by decide +kernel
theorem dJ0_getBytes_840e7_18 : decode cJ0_getBytes_840e7 18 = .ok (.getfield 9, 3) := by decide +kernel
theorem dJ0_getBytes_840e7_21 : decode cJ0_getBytes_840e7 21 = .ok (.arraylength, 1) := by decide +kernel
theorem dJ0_getBytes_840e7_22 : decode cJ0_getBytes_840e7 22 = .ok (.invokestatic 212, 3) := by decide +kernel
theorem dJ0_getBytes_840e7_25 : decode cJ0_getBytes_840e7 25 = .ok (.goto 18, 3) := by decide +kernel
theorem dJ0_getBytes_840e7_28 : decode cJ0_getBytes_840e7 28 = .ok (.aload_n 0, 1) := by decide +kernel
theorem dJ0_getBytes_840e7_29 : decode cJ0_getBytes_840e7 29 = .ok (.getfield 9, 3) := by decide +kernel
theorem dJ0_getBytes_840e7_32 : decode cJ0_getBytes_840e7 32 = .ok (.iconst 0, 1) := by decide +kernel
theorem dJ0_getBytes_840e7_33 : decode cJ0_getBytes_840e7 33 = .ok (.aload_n 1, 1) := by decide +kernel
theorem dJ0_getBytes_840e7_34 : decode cJ0_getBytes_840e7 34 = .ok (.iload_n 2, 1) := by decide +kernel
theorem dJ0_getBytes_840e7_35 : decode cJ0_getBytes_840e7 35 = .ok (.aload_n 0, 1) := by decide +kernel
theorem dJ0_getBytes_840e7_36 : decode cJ0_getBytes_840e7 36 = .ok (.getfield 9, 3) := by decide +kernel
theorem dJ0_getBytes_840e7_39 : decode cJ0_getBytes_840e7 39 = .ok (.arraylength, 1) := by decide +kernel
theorem dJ0_getBytes_840e7_40 : decode cJ0_getBytes_840e7 40 = .ok (.invokestatic 106, 3) := by decide +kernel
theorem dJ0_getBytes_840e7_43 : decode cJ0_getBytes_840e7 43 = .ok (.return_, 1) := by decide +kernel
theorem dJ5_putStringAt_47b60_0 : decode cJ5_putStringAt_47b60 0 = .ok (.aload_n 0, 1) := by decide +kernel
theorem dJ5_putStringAt_47b60_1 : decode cJ5_putStringAt_47b60 1 = .ok (.aload_n 2, 1) := by decide +kernel
theorem dJ5_putStringAt_47b60_2 : decode cJ5_putStringAt_47b60 2 = .ok (.invokevirtual 397, 3) := by decide +kernel
theorem dJ5_putStringAt_47b60_5 : decode cJ5_putStringAt_47b60 5 = .ok (.aload_n 2, 1) := by decide +kernel
theorem dJ5_putStringAt_47b60_6 : decode cJ5_putStringAt_47b60 6 = .ok (.aload_n 0, 1) := by decide +kernel
theorem dJ5_putStringAt_47b60_7 : decode cJ5_putStringAt_47b60 7 = .ok (.getfield 15, 3) := by decide +kernel
theorem dJ5_putStringAt_47b60_10 : decode cJ5_putStringAt_47b60 10 = .ok (.iload_n 1, 1) := by decide +kernel
theorem dJ5_putStringAt_47b60_11 : decode cJ5_putStringAt_47b60 11 = .ok (.aload_n 0, 1) := by decide +kernel
theorem dJ5_putStringAt_47b60_12 : decode cJ5_putStringAt_47b60 12 = .ok (.getfield 22, 3) := by decide +kernel
theorem dJ5_putStringAt_47b60_15 : decode cJ5_putStringAt_47b60 15 = .ok (.invokevirtual 399, 3) := by decide +kernel
theorem dJ5_putStringAt_47b60_18 : decode cJ5_putStringAt_47b60 18 = .ok (.return_, 1) := by decide +kernel
theorem dJ5_append_cf1ce_0 : decode cJ5_append_cf1ce 0 = .ok (.aload_n 1, 1) := by decide +kernel
theorem dJ5_append_cf1ce_1 : decode cJ5_append_cf1ce 1 = .ok (.ifnonnull 8, 3) := by decide +kernel
theorem dJ5_append_cf1ce_4 : decode cJ5_append_cf1ce 4 = .ok (.aload_n 0, 1) := by decide +kernel
theorem dJ5_append_cf1ce_5 : decode cJ5_append_cf1ce 5 = .ok (.invokevirtual 204, 3) := by decide +kernel
theorem dJ5_append_cf1ce_8 : decode cJ5_append_cf1ce 8 = .ok (.areturn, 1) := by decide +kernel
theorem dJ5_append_cf1ce_9 : decode cJ5_append_cf1ce 9 = .ok (.aload_n 1, 1) := by decide +kernel
theorem dJ5_append_cf1ce_10 : decode cJ5_append_cf1ce 10 = .ok (.invokevirtual 32, 3) := by decide +kernel
theorem dJ5_append_cf1ce_13 : decode cJ5_append_cf1ce 13 = .ok (.istore_n 2, 1) := by decide +kernel
theorem dJ5_append_cf1ce_14 : decode cJ5_append_cf1ce 14 = .ok (.aload_n 0, 1) := by decide +kernel
theorem dJ5_append_cf1ce_15 : decode cJ5_append_cf1ce 15 = .ok (.aload_n 0, 1) := by decide +kernel
theorem dJ5_append_cf1ce_16 : decode cJ5_append_cf1ce 16 = .ok (.getfield 79, 3) := by decide +kernel
theorem dJ5_append_cf1ce_19 : decode cJ5_append_cf1ce 19 = .ok (.iload_n 2, 1) := by decide +kernel
theorem dJ5_append_cf1ce_20 : decode cJ5_append_cf1ce 20 = .ok (.iadd, 1) := by decide +kernel
theorem dJ5_append_cf1ce_21 : decode cJ5_append_cf1ce 21 = .ok (.invokevirtual 100, 3) := by decide +kernel
theorem dJ5_append_cf1ce_24 : decode cJ5_append_cf1ce 24 = .ok (.aload_n 0, 1) := by decide +kernel
theorem dJ5_append_cf1ce_25 : decode cJ5_append_cf1ce 25 = .ok (.aload_n 0, 1) := by decide +kernel
theorem dJ5_append_cf1ce_26 : decode cJ5_append_cf1ce 26 = .ok (.getfield 79, 3) := by decide +kernel
theorem dJ5_append_cf1ce_29 : decode cJ5_append_cf1ce 29 = .ok (.aload_n 1, 1) := by decide +kernel
theorem dJ5_append_cf1ce_30 : decode cJ5_append_cf1ce 30 = .ok (.invokevirtual 208, 3) := by decide +kernel
theorem dJ5_append_cf1ce_33 : decode cJ5_append_cf1ce 33 = .ok (.aload_n 0, 1) := by decide +kernel
theorem dJ5_append_cf1ce_34 : decode cJ5_append_cf1ce 34 = .ok (.dup, 1) := by decide +kernel
theorem dJ5_append_cf1ce_35 : decode cJ5_append_cf1ce 35 = .ok (.getfield 79, 3) := by decide +kernel
theorem dJ5_append_cf1ce_38 : decode cJ5_append_cf1ce 38 = .ok (.iload_n 2, 1) := by decide +kernel
theorem dJ5_append_cf1ce_39 : decode cJ5_append_cf1ce 39 = .ok (.iadd, 1) := by decide +kernel
theorem dJ5_append_cf1ce_40 : decode cJ5_append_cf1ce 40 = .ok (.putfield 79, 3) := by decide +kernel
theorem dJ5_append_cf1ce_43 : decode cJ5_append_cf1ce 43 = .ok (.aload_n 0, 1) := by decide +kernel
theorem dJ5_append_cf1ce_44 : decode cJ5_append_cf1ce 44 = .ok (.areturn, 1) := by decide +kernel
theorem dJ4_append_15ec4_0 : decode cJ4_append_15ec4 0 = .ok (.aload_n 0, 1) := by decide +kernel
theorem dJ4_append_15ec4_1 : decode cJ4_append_15ec4 1 = .ok (.aload_n 1, 1) := by decide +kernel
theorem dJ4_append_15ec4_2 : decode cJ4_append_15ec4 2 = .ok (.invokespecial 29, 3) := by decide +kernel
theorem dJ4_append_15ec4_5 : decode cJ4_append_15ec4 5 = .ok (.pop, 1) := by decide +kernel
theorem dJ4_append_15ec4_6 : decode cJ4_append_15ec4 6 = .ok (.aload_n 0, 1) := by decide +kernel
theorem dJ4_append_15ec4_7 : decode cJ4_append_15ec4 7 = .ok (.areturn, 1) := by decide +kernel
theorem dJ6_stringSize_0f7a4_0 : decode cJ6_stringSize_0f7a4 0 = .ok (.iconst 1, 1) := by decide +kernel
theorem dJ6_stringSize_0f7a4_1 : decode cJ6_stringSize_0f7a4 1 = .ok (.istore_n 1, 1) := by decide +kernel
theorem dJ6_stringSize_0f7a4_2 : decode cJ6_stringSize_0f7a4 2 = .ok (.iload_n 0, 1) := by decide +kernel
theorem dJ6_stringSize_0f7a4_3 : decode cJ6_stringSize_0f7a4 3 = .ok (.ifCond .lt 8, 3) := by decide +kernel
theorem dJ6_stringSize_0f7a4_6 : decode cJ6_stringSize_0f7a4 6 = .ok (.iconst 0, 1) := by decide +kernel
theorem dJ6_stringSize_0f7a4_7 : decode cJ6_stringSize_0f7a4 7 = .ok (.istore_n 1, 1) := by decide +kernel
theorem dJ6_stringSize_0f7a4_8 : decode cJ6_stringSize_0f7a4 8 = .ok (.iload_n 0, 1) := by decide +kernel
theorem dJ6_stringSize_0f7a4_9 : decode cJ6_stringSize_0f7a4 9 = .ok (.ineg, 1) := by decide +kernel
theorem dJ6_stringSize_0f7a4_10 : decode cJ6_stringSize_0f7a4 10 = .ok (.istore_n 0, 1) := by decide +kernel
theorem dJ6_stringSize_0f7a4_11 : decode cJ6_stringSize_0f7a4 11 = .ok (.bipush (-10), 2) := by decide +kernel
theorem dJ6_stringSize_0f7a4_13 : decode cJ6_stringSize_0f7a4 13 = .ok (.istore_n 2, 1) := by decide +kernel
theorem dJ6_stringSize_0f7a4_14 : decode cJ6_stringSize_0f7a4 14 = .ok (.iconst 1, 1) := by decide +kernel
theorem dJ6_stringSize_0f7a4_15 : decode cJ6_stringSize_0f7a4 15 = .ok (.istore_n 3, 1) := by decide +kernel
theorem dJ6_stringSize_0f7a4_16 : decode cJ6_stringSize_0f7a4 16 = .ok (.iload_n 3, 1) := by decide +kernel
theorem dJ6_stringSize_0f7a4_17 : decode cJ6_stringSize_0f7a4 17 = .ok (.bipush 10, 2) := by decide +kernel
theorem dJ6_stringSize_0f7a4_19 : decode cJ6_stringSize_0f7a4 19 = .ok (.if_icmp .ge 23, 3) := by decide +kernel
theorem dJ6_stringSize_0f7a4_22 : decode cJ6_stringSize_0f7a4 22 = .ok (.iload_n 0, 1) := by decide +kernel
theorem dJ6_stringSize_0f7a4_23 : decode cJ6_stringSize_0f7a4 23 = .ok (.iload_n 2, 1) := by decide +kernel
theorem dJ6_stringSize_0f7a4_24 : decode cJ6_stringSize_0f7a4 24 = .ok (.if_icmp .le 7, 3) := by decide +kernel
theorem dJ6_stringSize_0f7a4_27 : decode cJ6_stringSize_0f7a4 27 = .ok (.iload_n 3, 1) := by decide +kernel
theorem dJ6_stringSize_0f7a4_28 : decode cJ6_stringSize_0f7a4 28 = .ok (.iload_n 1, 1) := by decide +kernel
theorem dJ6_stringSize_0f7a4_29 : decode cJ6_stringSize_0f7a4 29 = .ok (.iadd, 1) := by decide +kernel
theorem dJ6_stringSize_0f7a4_30 : decode cJ6_stringSize_0f7a4 30 = .ok (.ireturn, 1) := by decide +kernel
theorem dJ6_stringSize_0f7a4_31 : decode cJ6_stringSize_0f7a4 31 = .ok (.bipush 10, 2) := by decide +kernel
theorem dJ6_stringSize_0f7a4_33 : decode cJ6_stringSize_0f7a4 33 = .ok (.iload_n 2, 1) := by decide +kernel
theorem dJ6_stringSize_0f7a4_34 : decode cJ6_stringSize_0f7a4 34 = .ok (.imul, 1) := by decide +kernel
theorem dJ6_stringSize_0f7a4_35 : decode cJ6_stringSize_0f7a4 35 = .ok (.istore_n 2, 1) := by decide +kernel
theorem dJ6_stringSize_0f7a4_36 : decode cJ6_stringSize_0f7a4 36 = .ok (.iinc 3 1, 3) := by decide +kernel
theorem dJ6_stringSize_0f7a4_39 : decode cJ6_stringSize_0f7a4 39 = .ok (.goto (-23), 3) := by decide +kernel
theorem dJ6_stringSize_0f7a4_42 : decode cJ6_stringSize_0f7a4 42 = .ok (.bipush 10, 2) := by decide +kernel
theorem dJ6_stringSize_0f7a4_44 : decode cJ6_stringSize_0f7a4 44 = .ok (.iload_n 1, 1) := by decide +kernel
theorem dJ6_stringSize_0f7a4_45 : decode cJ6_stringSize_0f7a4 45 = .ok (.iadd, 1) := by decide +kernel
theorem dJ6_stringSize_0f7a4_46 : decode cJ6_stringSize_0f7a4 46 = .ok (.ireturn, 1) := by decide +kernel
theorem dJ6_getChars_ba4f3_0 : decode cJ6_getChars_ba4f3 0 = .ok (.iload_n 1, 1) := by decide +kernel
theorem dJ6_getChars_ba4f3_1 : decode cJ6_getChars_ba4f3 1 = .ok (.istore 5, 2) := by decide +kernel
theorem dJ6_getChars_ba4f3_3 : decode cJ6_getChars_ba4f3 3 = .ok (.iload_n 0, 1) := by decide +kernel
theorem dJ6_getChars_ba4f3_4 : decode cJ6_getChars_ba4f3 4 = .ok (.ifCond .ge 7, 3) := by decide +kernel
theorem dJ6_getChars_ba4f3_7 : decode cJ6_getChars_ba4f3 7 = .ok (.iconst 1, 1) := by decide +kernel
theorem dJ6_getChars_ba4f3_8 : decode cJ6_getChars_ba4f3 8 = .ok (.goto 4, 3) := by decide +kernel
theorem dJ6_getChars_ba4f3_11 : decode cJ6_getChars_ba4f3 11 = .ok (.iconst 0, 1) := by decide +kernel
theorem dJ6_getChars_ba4f3_12 : decode cJ6_getChars_ba4f3 12 = .ok (.istore 6, 2) := by decide +kernel
theorem dJ6_getChars_ba4f3_14 : decode cJ6_getChars_ba4f3 14 = .ok (.iload 6, 2) := by decide +kernel
theorem dJ6_getChars_ba4f3_16 : decode cJ6_getChars_ba4f3 16 = .ok (.ifCond .ne 6, 3) := by decide +kernel
theorem dJ6_getChars_ba4f3_19 : decode cJ6_getChars_ba4f3 19 = .ok (.iload_n 0, 1) := by decide +kernel
theorem dJ6_getChars_ba4f3_20 : decode cJ6_getChars_ba4f3 20 = .ok (.ineg, 1) := by decide +kernel
theorem dJ6_getChars_ba4f3_21 : decode cJ6_getChars_ba4f3 21 = .ok (.istore_n 0, 1) := by decide +kernel
theorem dJ6_getChars_ba4f3_22 : decode cJ6_getChars_ba4f3 22 = .ok (.iload_n 0, 1) := by decide +kernel
theorem dJ6_getChars_ba4f3_23 : decode cJ6_getChars_ba4f3 23 = .ok (.bipush (-100), 2) := by decide +kernel
theorem dJ6_getChars_ba4f3_25 : decode cJ6_getChars_ba4f3 25 = .ok (.if_icmp .gt 47, 3) := by decide +kernel
theorem dJ6_getChars_ba4f3_28 : decode cJ6_getChars_ba4f3 28 = .ok (.iload_n 0, 1) := by decide +kernel
theorem dJ6_getChars_ba4f3_29 : decode cJ6_getChars_ba4f3 29 = .ok (.bipush 100, 2) := by decide +kernel
theorem dJ6_getChars_ba4f3_31 : decode cJ6_getChars_ba4f3 31 = .ok (.idiv, 1) := by decide +kernel
theorem dJ6_getChars_ba4f3_32 : decode cJ6_getChars_ba4f3 32 = .ok (.istore_n 3, 1) := by decide +kernel
theorem dJ6_getChars_ba4f3_33 : decode cJ6_getChars_ba4f3 33 = .ok (.iload_n 3, 1) := by decide +kernel
theorem dJ6_getChars_ba4f3_34 : decode cJ6_getChars_ba4f3 34 = .ok (.bipush 100, 2) := by decide +kernel
theorem dJ6_getChars_ba4f3_36 : decode cJ6_getChars_ba4f3 36 = .ok (.imul, 1) := by decide +kernel
theorem dJ6_getChars_ba4f3_37 : decode cJ6_getChars_ba4f3 37 = .ok (.iload_n 0, 1) := by decide +kernel
theorem dJ6_getChars_ba4f3_38 : decode cJ6_getChars_ba4f3 38 = .ok (.isub, 1) := by decide +kernel
theorem dJ6_getChars_ba4f3_39 : decode cJ6_getChars_ba4f3 39 = .ok (.istore 4, 2) := by decide +kernel
theorem dJ6_getChars_ba4f3_41 : decode cJ6_getChars_ba4f3 41 = .ok (.iload_n 3, 1) := by decide +kernel
theorem dJ6_getChars_ba4f3_42 : decode cJ6_getChars_ba4f3 42 = .ok (.istore_n 0, 1) := by decide +kernel
theorem dJ6_getChars_ba4f3_43 : decode cJ6_getChars_ba4f3 43 = .ok (.aload_n 2, 1) := by decide +kernel
theorem dJ6_getChars_ba4f3_44 : decode cJ6_getChars_ba4f3 44 = .ok (.iinc 5 (-1), 3) := by decide +kernel
theorem dJ6_getChars_ba4f3_47 : decode cJ6_getChars_ba4f3 47 = .ok (.iload 5, 2) := by decide +kernel
theorem dJ6_getChars_ba4f3_49 : decode cJ6_getChars_ba4f3 49 = .ok (.getstatic 83, 3) := by decide +kernel
theorem dJ6_getChars_ba4f3_52 : decode cJ6_getChars_ba4f3 52 = .ok (.iload 4, 2) := by decide +kernel
theorem dJ6_getChars_ba4f3_54 : decode cJ6_getChars_ba4f3 54 = .ok (.baload, 1) := by decide +kernel
theorem dJ6_getChars_ba4f3_55 : decode cJ6_getChars_ba4f3 55 = .ok (.bastore, 1) := by decide +kernel
theorem dJ6_getChars_ba4f3_56 : decode cJ6_getChars_ba4f3 56 = .ok (.aload_n 2, 1) := by decide +kernel
theorem dJ6_getChars_ba4f3_57 : decode cJ6_getChars_ba4f3 57 = .ok (.iinc 5 (-1), 3) := by decide +kernel
theorem dJ6_getChars_ba4f3_60 : decode cJ6_getChars_ba4f3 60 = .ok (.iload 5, 2) := by decide +kernel
theorem dJ6_getChars_ba4f3_62 : decode cJ6_getChars_ba4f3 62 = .ok (.getstatic 87, 3) := by decide +kernel
theorem dJ6_getChars_ba4f3_65 : decode cJ6_getChars_ba4f3 65 = .ok (.iload 4, 2) := by decide +kernel
theorem dJ6_getChars_ba4f3_67 : decode cJ6_getChars_ba4f3 67 = .ok (.baload, 1) := by decide +kernel
theorem dJ6_getChars_ba4f3_68 : decode cJ6_getChars_ba4f3 68 = .ok (.bastore, 1) := by decide +kernel
theorem dJ6_getChars_ba4f3_69 : decode cJ6_getChars_ba4f3 69 = .ok (.goto (-47), 3) := by decide +kernel
theorem dJ6_getChars_ba4f3_72 : decode cJ6_getChars_ba4f3 72 = .ok (.aload_n 2, 1) := by decide +kernel
theorem dJ6_getChars_ba4f3_73 : decode cJ6_getChars_ba4f3 73 = .ok (.iinc 5 (-1), 3) := by decide +kernel
theorem dJ6_getChars_ba4f3_76 : decode cJ6_getChars_ba4f3 76 = .ok (.iload 5, 2) := by decide +kernel
theorem dJ6_getChars_ba4f3_78 : decode cJ6_getChars_ba4f3 78 = .ok (.getstatic 83, 3) := by decide +kernel
theorem dJ6_getChars_ba4f3_81 : decode cJ6_getChars_ba4f3 81 = .ok (.iload_n 0, 1) := by decide +kernel
theorem dJ6_getChars_ba4f3_82 : decode cJ6_getChars_ba4f3 82 = .ok (.ineg, 1) := by decide +kernel
theorem dJ6_getChars_ba4f3_83 : decode cJ6_getChars_ba4f3 83 = .ok (.baload, 1) := by decide +kernel
theorem dJ6_getChars_ba4f3_84 : decode cJ6_getChars_ba4f3 84 = .ok (.bastore, 1) := by decide +kernel
theorem dJ6_getChars_ba4f3_85 : decode cJ6_getChars_ba4f3 85 = .ok (.iload_n 0, 1) := by decide +kernel
theorem dJ6_getChars_ba4f3_86 : decode cJ6_getChars_ba4f3 86 = .ok (.bipush (-9), 2) := by decide +kernel
theorem dJ6_getChars_ba4f3_88 : decode cJ6_getChars_ba4f3 88 = .ok (.if_icmp .ge 16, 3) := by decide +kernel
theorem dJ6_getChars_ba4f3_91 : decode cJ6_getChars_ba4f3 91 = .ok (.aload_n 2, 1) := by decide +kernel
theorem dJ6_getChars_ba4f3_92 : decode cJ6_getChars_ba4f3 92 = .ok (.iinc 5 (-1), 3) := by decide +kernel
theorem dJ6_getChars_ba4f3_95 : decode cJ6_getChars_ba4f3 95 = .ok (.iload 5, 2) := by decide +kernel
theorem dJ6_getChars_ba4f3_97 : decode cJ6_getChars_ba4f3 97 = .ok (.getstatic 87, 3) := by decide +kernel
theorem dJ6_getChars_ba4f3_100 : decode cJ6_getChars_ba4f3 100 = .ok (.iload_n 0, 1) := by decide +kernel
theorem dJ6_getChars_ba4f3_101 : decode cJ6_getChars_ba4f3 101 = .ok (.ineg, 1) := by decide +kernel
theorem dJ6_getChars_ba4f3_102 : decode cJ6_getChars_ba4f3 102 = .ok (.baload, 1) := by decide +kernel
theorem dJ6_getChars_ba4f3_103 : decode cJ6_getChars_ba4f3 103 = .ok (.bastore, 1) := by decide +kernel
theorem dJ6_getChars_ba4f3_104 : decode cJ6_getChars_ba4f3 104 = .ok (.iload 6, 2) := by decide +kernel
theorem dJ6_getChars_ba4f3_106 : decode cJ6_getChars_ba4f3 106 = .ok (.ifCond .eq 12, 3) := by decide +kernel
theorem dJ6_getChars_ba4f3_109 : decode cJ6_getChars_ba4f3 109 = .ok (.aload_n 2, 1) := by decide +kernel
theorem dJ6_getChars_ba4f3_110 : decode cJ6_getChars_ba4f3 110 = .ok (.iinc 5 (-1), 3) := by decide +kernel
theorem dJ6_getChars_ba4f3_113 : decode cJ6_getChars_ba4f3 113 = .ok (.iload 5, 2) := by decide +kernel
theorem dJ6_getChars_ba4f3_115 : decode cJ6_getChars_ba4f3 115 = .ok (.bipush 45, 2) := by decide +kernel
theorem dJ6_getChars_ba4f3_117 : decode cJ6_getChars_ba4f3 117 = .ok (.bastore, 1) := by decide +kernel
theorem dJ6_getChars_ba4f3_118 : decode cJ6_getChars_ba4f3 118 = .ok (.iload 5, 2) := by decide +kernel
theorem dJ6_getChars_ba4f3_120 : decode cJ6_getChars_ba4f3 120 = .ok (.ireturn, 1) := by decide +kernel
theorem dJ5_append_c97b9_0 : decode cJ5_append_c97b9 0 = .ok (.aload_n 0, 1) := by decide +kernel
theorem dJ5_append_c97b9_1 : decode cJ5_append_c97b9 1 = .ok (.getfield 79, 3) := by decide +kernel
theorem dJ5_append_c97b9_4 : decode cJ5_append_c97b9 4 = .ok (.istore_n 2, 1) := by decide +kernel
theorem dJ5_append_c97b9_5 : decode cJ5_append_c97b9 5 = .ok (.iload_n 2, 1) := by decide +kernel
theorem dJ5_append_c97b9_6 : decode cJ5_append_c97b9 6 = .ok (.iload_n 1, 1) := by decide +kernel
theorem dJ5_append_c97b9_7 : decode cJ5_append_c97b9 7 = .ok (.invokestatic 245, 3) := by decide +kernel
theorem dJ5_append_c97b9_10 : decode cJ5_append_c97b9 10 = .ok (.iadd, 1) := by decide +kernel
theorem dJ5_append_c97b9_11 : decode cJ5_append_c97b9 11 = .ok (.istore_n 3, 1) := by decide +kernel
theorem dJ5_append_c97b9_12 : decode cJ5_append_c97b9 12 = .ok (.aload_n 0, 1) := by decide +kernel
theorem dJ5_append_c97b9_13 : decode cJ5_append_c97b9 13 = .ok (.iload_n 3, 1) := by decide +kernel
theorem dJ5_append_c97b9_14 : decode cJ5_append_c97b9 14 = .ok (.invokevirtual 100, 3) := by decide +kernel
theorem dJ5_append_c97b9_17 : decode cJ5_append_c97b9 17 = .ok (.aload_n 0, 1) := by decide +kernel
theorem dJ5_append_c97b9_18 : decode cJ5_append_c97b9 18 = .ok (.invokevirtual 83, 3) := by decide +kernel
theorem dJ5_append_c97b9_21 : decode cJ5_append_c97b9 21 = .ok (.ifCond .eq 16, 3) := by decide +kernel
theorem dJ5_append_c97b9_24 : decode cJ5_append_c97b9 24 = .ok (.iload_n 1, 1) := by decide +kernel
theorem dJ5_append_c97b9_25 : decode cJ5_append_c97b9 25 = .ok (.iload_n 3, 1) := by decide +kernel
theorem dJ5_append_c97b9_26 : decode cJ5_append_c97b9 26 = .ok (.aload_n 0, 1) := by decide +kernel
theorem dJ5_append_c97b9_27 : decode cJ5_append_c97b9 27 = .ok (.getfield 15, 3) := by decide +kernel
theorem dJ5_append_c97b9_30 : decode cJ5_append_c97b9 30 = .ok (.invokestatic 248, 3) := by decide +kernel
theorem dJ5_append_c97b9_33 : decode cJ5_append_c97b9 33 = .ok (.pop, 1) := by decide +kernel
theorem dJ5_append_c97b9_34 : decode cJ5_append_c97b9 34 = .ok (.goto 14, 3) := by decide +kernel
theorem dJ5_append_c97b9_37 : decode cJ5_append_c97b9 37 = .ok (.iload_n 1, 1) := by decide +kernel
theorem dJ5_append_c97b9_38 : decode cJ5_append_c97b9 38 = .ok (.iload_n 2, 1) := by decide +kernel
theorem dJ5_append_c97b9_39 : decode cJ5_append_c97b9 39 = .ok (.iload_n 3, 1) := by decide +kernel
theorem dJ5_append_c97b9_40 : decode cJ5_append_c97b9 40 = .ok (.aload_n 0, 1) := by decide +kernel
theorem dJ5_append_c97b9_41 : decode cJ5_append_c97b9 41 = .ok (.getfield 15, 3) := by decide +kernel
theorem dJ5_append_c97b9_44 : decode cJ5_append_c97b9 44 = .ok (.invokestatic 251, 3) := by decide +kernel
theorem dJ5_append_c97b9_47 : decode cJ5_append_c97b9 47 = .ok (.pop, 1) := by decide +kernel
theorem dJ5_append_c97b9_48 : decode cJ5_append_c97b9 48 = .ok (.aload_n 0, 1) := by decide +kernel
theorem dJ5_append_c97b9_49 : decode cJ5_append_c97b9 49 = .ok (.iload_n 3, 1) := by decide +kernel
theorem dJ5_append_c97b9_50 : decode cJ5_append_c97b9 50 = .ok (.putfield 79, 3) := by decide +kernel
theorem dJ5_append_c97b9_53 : decode cJ5_append_c97b9 53 = .ok (.aload_n 0, 1) := by decide +kernel
theorem dJ5_append_c97b9_54 : decode cJ5_append_c97b9 54 = .ok (.areturn, 1) := by decide +kernel
theorem dJ4_append_bf812_0 : decode cJ4_append_bf812 0 = .ok (.aload_n 0, 1) := by decide +kernel
theorem dJ4_append_bf812_1 : decode cJ4_append_bf812 1 = .ok (.iload_n 1, 1) := by decide +kernel
theorem dJ4_append_bf812_2 : decode cJ4_append_bf812 2 = .ok (.invokespecial 53, 3) := by decide +kernel
theorem dJ4_append_bf812_5 : decode cJ4_append_bf812 5 = .ok (.pop, 1) := by decide +kernel
theorem dJ4_append_bf812_6 : decode cJ4_append_bf812 6 = .ok (.aload_n 0, 1) := by decide +kernel
theorem dJ4_append_bf812_7 : decode cJ4_append_bf812 7 = .ok (.areturn, 1) := by decide +kernel
theorem dJ4_append_cf1ce_0 : decode cJ4_append_cf1ce 0 = .ok (.aload_n 0, 1) := by decide +kernel
theorem dJ4_append_cf1ce_1 : decode cJ4_append_cf1ce 1 = .ok (.aload_n 1, 1) := by decide +kernel
theorem dJ4_append_cf1ce_2 : decode cJ4_append_cf1ce 2 = .ok (.invokevirtual 23, 3) := by decide +kernel
theorem dJ4_append_cf1ce_5 : decode cJ4_append_cf1ce 5 = .ok (.areturn, 1) := by decide +kernel
theorem dJ5_init_a7421_0 : decode cJ5_init_a7421 0 = .ok (.aload_n 0, 1) := by decide +kernel
theorem dJ5_init_a7421_1 : decode cJ5_init_a7421 1 = .ok (.invokespecial 3, 3) := by decide +kernel
theorem dJ5_init_a7421_4 : decode cJ5_init_a7421 4 = .ok (.aload_n 1, 1) := by decide +kernel
theorem dJ5_init_a7421_5 : decode cJ5_init_a7421 5 = .ok (.invokevirtual 32, 3) := by decide +kernel
theorem dJ5_init_a7421_8 : decode cJ5_init_a7421 8 = .ok (.istore_n 2, 1) := by decide +kernel
theorem dJ5_init_a7421_9 : decode cJ5_init_a7421 9 = .ok (.iload_n 2, 1) := by decide +kernel
theorem dJ5_init_a7421_10 : decode cJ5_init_a7421 10 = .ok (.ldc 38, 2) := by decide +kernel
theorem dJ5_init_a7421_12 : decode cJ5_init_a7421 12 = .ok (.if_icmp .ge 10, 3) := by decide +kernel
theorem dJ5_init_a7421_15 : decode cJ5_init_a7421 15 = .ok (.iload_n 2, 1) := by decide +kernel
theorem dJ5_init_a7421_16 : decode cJ5_init_a7421 16 = .ok (.bipush 16, 2) := by decide +kernel
theorem dJ5_init_a7421_18 : decode cJ5_init_a7421 18 = .ok (.iadd, 1) := by decide +kernel
theorem dJ5_init_a7421_19 : decode cJ5_init_a7421 19 = .ok (.goto 5, 3) := by decide +kernel
theorem dJ5_init_a7421_22 : decode cJ5_init_a7421 22 = .ok (.ldc 39, 2) := by decide +kernel
theorem dJ5_init_a7421_24 : decode cJ5_init_a7421 24 = .ok (.istore_n 3, 1) := by decide +kernel
theorem dJ5_init_a7421_25 : decode cJ5_init_a7421 25 = .ok (.aload_n 1, 1) := by decide +kernel
theorem dJ5_init_a7421_26 : decode cJ5_init_a7421 26 = .ok (.invokevirtual 40, 3) := by decide +kernel
theorem dJ5_init_a7421_29 : decode cJ5_init_a7421 29 = .ok (.istore 4, 2) := by decide +kernel
theorem dJ5_init_a7421_31 : decode cJ5_init_a7421 31 = .ok (.aload_n 0, 1) := by decide +kernel
theorem dJ5_init_a7421_32 : decode cJ5_init_a7421 32 = .ok (.iload 4, 2) := by decide +kernel
theorem dJ5_init_a7421_34 : decode cJ5_init_a7421 34 = .ok (.putfield 22, 3) := by decide +kernel
theorem dJ5_init_a7421_37 : decode cJ5_init_a7421 37 = .ok (.aload_n 0, 1) := by decide +kernel
theorem dJ5_init_a7421_38 : decode cJ5_init_a7421 38 = .ok (.iload 4, 2) := by decide +kernel
theorem dJ5_init_a7421_40 : decode cJ5_init_a7421 40 = .ok (.ifCond .ne 9, 3) := by decide +kernel
theorem dJ5_init_a7421_43 : decode cJ5_init_a7421 43 = .ok (.iload_n 3, 1) := by decide +kernel
theorem dJ5_init_a7421_44 : decode cJ5_init_a7421 44 = .ok (.newarray .byte, 2) := by decide +kernel
theorem dJ5_init_a7421_46 : decode cJ5_init_a7421 46 = .ok (.goto 7, 3) := by decide +kernel
theorem dJ5_init_a7421_49 : decode cJ5_init_a7421 49 = .ok (.iload_n 3, 1) := by decide +kernel
theorem dJ5_init_a7421_50 : decode cJ5_init_a7421 50 = .ok (.invokestatic 26, 3) := by decide +kernel
theorem dJ5_init_a7421_53 : decode cJ5_init_a7421 53 = .ok (.putfield 15, 3) := by decide +kernel
theorem dJ5_init_a7421_56 : decode cJ5_init_a7421 56 = .ok (.aload_n 0, 1) := by decide +kernel
theorem dJ5_init_a7421_57 : decode cJ5_init_a7421 57 = .ok (.aload_n 1, 1) := by decide +kernel
theorem dJ5_init_a7421_58 : decode cJ5_init_a7421 58 = .ok (.invokevirtual 43, 3) := by decide +kernel
theorem dJ5_init_a7421_61 : decode cJ5_init_a7421 61 = .ok (.pop, 1) := by decide +kernel
theorem dJ5_init_a7421_62 : decode cJ5_init_a7421 62 = .ok (.return_, 1) := by decide +kernel
theorem dJ4_init_a7421_0 : decode cJ4_init_a7421 0 = .ok (.aload_n 0, 1) := by decide +kernel
theorem dJ4_init_a7421_1 : decode cJ4_init_a7421 1 = .ok (.aload_n 1, 1) := by decide +kernel
theorem dJ4_init_a7421_2 : decode cJ4_init_a7421 2 = .ok (.invokespecial 7, 3) := by decide +kernel
theorem dJ4_init_a7421_5 : decode cJ4_init_a7421 5 = .ok (.return_, 1) := by decide +kernel
theorem dL_changes_0 : decode cL_changes 0 = .ok (.aload_n 2, 1) := by decide +kernel
theorem dL_changes_1 : decode cL_changes 1 = .ok (.aload_n 1, 1) := by decide +kernel
theorem dL_changes_2 : decode cL_changes 2 = .ok (.getfield 46, 3) := by decide +kernel
theorem dL_changes_5 : decode cL_changes 5 = .ok (.invokestatic 35, 3) := by decide +kernel
theorem dL_changes_8 : decode cL_changes 8 = .ok (.istore_n 3, 1) := by decide +kernel
theorem dL_changes_9 : decode cL_changes 9 = .ok (.aload_n 1, 1) := by decide +kernel
theorem dL_changes_10 : decode cL_changes 10 = .ok (.getfield 80, 3) := by decide +kernel
theorem dL_changes_13 : decode cL_changes 13 = .ok (.iload_n 3, 1) := by decide +kernel
theorem dL_changes_14 : decode cL_changes 14 = .ok (.aaload, 1) := by decide +kernel
theorem dL_changes_15 : decode cL_changes 15 = .ok (.astore 4, 2) := by decide +kernel
theorem dL_changes_17 : decode cL_changes 17 = .ok (.aload_n 2, 1) := by decide +kernel
theorem dL_changes_18 : decode cL_changes 18 = .ok (.aload_n 1, 1) := by decide +kernel
theorem dL_changes_19 : decode cL_changes 19 = .ok (.getfield 39, 3) := by decide +kernel
theorem dL_changes_22 : decode cL_changes 22 = .ok (.invokestatic 35, 3) := by decide +kernel
theorem dL_changes_25 : decode cL_changes 25 = .ok (.istore 5, 2) := by decide +kernel
theorem dL_changes_27 : decode cL_changes 27 = .ok (.aload_n 2, 1) := by decide +kernel
theorem dL_changes_28 : decode cL_changes 28 = .ok (.bipush 6, 2) := by decide +kernel
theorem dL_changes_30 : decode cL_changes 30 = .ok (.invokestatic 35, 3) := by decide +kernel
theorem dL_changes_33 : decode cL_changes 33 = .ok (.istore 6, 2) := by decide +kernel
theorem dL_changes_35 : decode cL_changes 35 = .ok (.aload_n 2, 1) := by decide +kernel
theorem dL_changes_36 : decode cL_changes 36 = .ok (.bipush 14, 2) := by decide +kernel
theorem dL_changes_38 : decode cL_changes 38 = .ok (.invokestatic 35, 3) := by decide +kernel
theorem dL_changes_41 : decode cL_changes 41 = .ok (.tableswitch 636 0 12 #[67, 97, 145, 145, 254, 311, 311, 311, 347, 430, 430, 454, 546], 67) := by decide +kernel
theorem dL_changes_108 : decode cL_changes 108 = .ok (.aload_n 2, 1) := by decide +kernel
theorem dL_changes_109 : decode cL_changes 109 = .ok (.iconst 2, 1) := by decide +kernel
theorem dL_changes_110 : decode cL_changes 110 = .ok (.invokestatic 35, 3) := by decide +kernel
theorem dL_changes_113 : decode cL_changes 113 = .ok (.ifCond .le 5, 3) := by decide +kernel
theorem dL_changes_116 : decode cL_changes 116 = .ok (.iconst 1, 1) := by decide +kernel
theorem dL_changes_117 : decode cL_changes 117 = .ok (.ireturn, 1) := by decide +kernel
theorem dL_changes_118 : decode cL_changes 118 = .ok (.aload_n 0, 1) := by decide +kernel
theorem dL_changes_119 : decode cL_changes 119 = .ok (.iload_n 3, 1) := by decide +kernel
theorem dL_changes_120 : decode cL_changes 120 = .ok (.invokevirtual 275, 3) := by decide +kernel
theorem dL_changes_123 : decode cL_changes 123 = .ok (.aload_n 1, 1) := by decide +kernel
theorem dL_changes_124 : decode cL_changes 124 = .ok (.aload 4, 2) := by decide +kernel
theorem dL_changes_126 : decode cL_changes 126 = .ok (.invokevirtual 278, 3) := by decide +kernel
theorem dL_changes_129 : decode cL_changes 129 = .ok (.if_icmp .ne 7, 3) := by decide +kernel
theorem dL_changes_132 : decode cL_changes 132 = .ok (.iconst 1, 1) := by decide +kernel
theorem dL_changes_133 : decode cL_changes 133 = .ok (.goto 4, 3) := by decide +kernel
theorem dL_changes_136 : decode cL_changes 136 = .ok (.iconst 0, 1) := by decide +kernel
theorem dL_changes_137 : decode cL_changes 137 = .ok (.ireturn, 1) := by decide +kernel
theorem dL_changes_138 : decode cL_changes 138 = .ok (.aload_n 1, 1) := by decide +kernel
theorem dL_changes_139 : decode cL_changes 139 = .ok (.getfield 96, 3) := by decide +kernel
theorem dL_changes_142 : decode cL_changes 142 = .ok (.bipush 8, 2) := by decide +kernel
theorem dL_changes_144 : decode cL_changes 144 = .ok (.if_icmp .ne 5, 3) := by decide +kernel
theorem dL_changes_147 : decode cL_changes 147 = .ok (.iconst 1, 1) := by decide +kernel
theorem dL_changes_148 : decode cL_changes 148 = .ok (.ireturn, 1) := by decide +kernel
theorem dL_changes_149 : decode cL_changes 149 = .ok (.aload_n 1, 1) := by decide +kernel
theorem dL_changes_150 : decode cL_changes 150 = .ok (.getfield 92, 3) := by decide +kernel
theorem dL_changes_153 : decode cL_changes 153 = .ok (.aload_n 1, 1) := by decide +kernel
theorem dL_changes_154 : decode cL_changes 154 = .ok (.getfield 96, 3) := by decide +kernel
theorem dL_changes_157 : decode cL_changes 157 = .ok (.aload_n 1, 1) := by decide +kernel
theorem dL_changes_158 : decode cL_changes 158 = .ok (.getfield 99, 3) := by decide +kernel
theorem dL_changes_161 : decode cL_changes 161 = .ok (.iastore, 1) := by decide +kernel
theorem dL_changes_162 : decode cL_changes 162 = .ok (.aload_n 0, 1) := by decide +kernel
theorem dL_changes_163 : decode cL_changes 163 = .ok (.invokevirtual 281, 3) := by decide +kernel
theorem dL_changes_166 : decode cL_changes 166 = .ok (.aload_n 1, 1) := by decide +kernel
theorem dL_changes_167 : decode cL_changes 167 = .ok (.dup, 1) := by decide +kernel
theorem dL_changes_168 : decode cL_changes 168 = .ok (.getfield 96, 3) := by decide +kernel
theorem dL_changes_171 : decode cL_changes 171 = .ok (.dup_x1, 1) := by decide +kernel
theorem dL_changes_172 : decode cL_changes 172 = .ok (.iconst 1, 1) := by decide +kernel
theorem dL_changes_173 : decode cL_changes 173 = .ok (.iadd, 1) := by decide +kernel
theorem dL_changes_174 : decode cL_changes 174 = .ok (.putfield 96, 3) := by decide +kernel
theorem dL_changes_177 : decode cL_changes 177 = .ok (.if_icmp .ne 7, 3) := by decide +kernel
theorem dL_changes_180 : decode cL_changes 180 = .ok (.iconst 1, 1) := by decide +kernel
theorem dL_changes_181 : decode cL_changes 181 = .ok (.goto 4, 3) := by decide +kernel
theorem dL_changes_184 : decode cL_changes 184 = .ok (.iconst 0, 1) := by decide +kernel
theorem dL_changes_185 : decode cL_changes 185 = .ok (.ireturn, 1) := by decide +kernel
theorem dL_changes_186 : decode cL_changes 186 = .ok (.aload_n 1, 1) := by decide +kernel
theorem dL_changes_187 : decode cL_changes 187 = .ok (.invokevirtual 220, 3) := by decide +kernel
theorem dL_changes_190 : decode cL_changes 190 = .ok (.bipush 6, 2) := by decide +kernel
theorem dL_changes_192 : decode cL_changes 192 = .ok (.if_icmp .ne 5, 3) := by decide +kernel
theorem dL_changes_195 : decode cL_changes 195 = .ok (.iconst 1, 1) := by decide +kernel
theorem dL_changes_196 : decode cL_changes 196 = .ok (.ireturn, 1) := by decide +kernel
theorem dL_changes_197 : decode cL_changes 197 = .ok (.iconst 0, 1) := by decide +kernel
theorem dL_changes_198 : decode cL_changes 198 = .ok (.istore 7, 2) := by decide +kernel
theorem dL_changes_200 : decode cL_changes 200 = .ok (.aload_n 1, 1) := by decide +kernel
theorem dL_changes_201 : decode cL_changes 201 = .ok (.getfield 124, 3) := by decide +kernel
theorem dL_changes_204 : decode cL_changes 204 = .ok (.iload 7, 2) := by decide +kernel
theorem dL_changes_206 : decode cL_changes 206 = .ok (.aaload, 1) := by decide +kernel
theorem dL_changes_207 : decode cL_changes 207 = .ok (.ifnull 9, 3) := by decide +kernel
theorem dL_changes_210 : decode cL_changes 210 = .ok (.iinc 7 1, 3) := by decide +kernel
theorem dL_changes_213 : decode cL_changes 213 = .ok (.goto (-13), 3) := by decide +kernel
theorem dL_changes_216 : decode cL_changes 216 = .ok (.new 129, 3) := by decide +kernel
theorem dL_changes_219 : decode cL_changes 219 = .ok (.dup, 1) := by decide +kernel
theorem dL_changes_220 : decode cL_changes 220 = .ok (.invokespecial 283, 3) := by decide +kernel
theorem dL_changes_223 : decode cL_changes 223 = .ok (.astore 8, 2) := by decide +kernel
theorem dL_changes_225 : decode cL_changes 225 = .ok (.aload 8, 2) := by decide +kernel
theorem dL_changes_227 : decode cL_changes 227 = .ok (.aload 4, 2) := by decide +kernel
theorem dL_changes_229 : decode cL_changes 229 = .ok (.putfield 128, 3) := by decide +kernel
theorem dL_changes_232 : decode cL_changes 232 = .ok (.aload 8, 2) := by decide +kernel
theorem dL_changes_234 : decode cL_changes 234 = .ok (.iload_n 3, 1) := by decide +kernel
theorem dL_changes_235 : decode cL_changes 235 = .ok (.putfield 195, 3) := by decide +kernel
theorem dL_changes_238 : decode cL_changes 238 = .ok (.aload 8, 2) := by decide +kernel
theorem dL_changes_240 : decode cL_changes 240 = .ok (.aload_n 1, 1) := by decide +kernel
theorem dL_changes_241 : decode cL_changes 241 = .ok (.getfield 99, 3) := by decide +kernel
theorem dL_changes_244 : decode cL_changes 244 = .ok (.putfield 203, 3) := by decide +kernel
theorem dL_changes_247 : decode cL_changes 247 = .ok (.aload 8, 2) := by decide +kernel
theorem dL_changes_249 : decode cL_changes 249 = .ok (.aload_n 2, 1) := by decide +kernel
theorem dL_changes_250 : decode cL_changes 250 = .ok (.iconst 2, 1) := by decide +kernel
theorem dL_changes_251 : decode cL_changes 251 = .ok (.invokestatic 35, 3) := by decide +kernel
theorem dL_changes_254 : decode cL_changes 254 = .ok (.ifCond .ne 7, 3) := by decide +kernel
theorem dL_changes_257 : decode cL_changes 257 = .ok (.iconst 1, 1) := by decide +kernel
theorem dL_changes_258 : decode cL_changes 258 = .ok (.goto 4, 3) := by decide +kernel
theorem dL_changes_261 : decode cL_changes 261 = .ok (.iconst 0, 1) := by decide +kernel
theorem dL_changes_262 : decode cL_changes 262 = .ok (.putfield 200, 3) := by decide +kernel
theorem dL_changes_265 : decode cL_changes 265 = .ok (.aload_n 1, 1) := by decide +kernel
theorem dL_changes_266 : decode cL_changes 266 = .ok (.getfield 124, 3) := by decide +kernel
theorem dL_changes_269 : decode cL_changes 269 = .ok (.iload 7, 2) := by decide +kernel
theorem dL_changes_271 : decode cL_changes 271 = .ok (.aload 8, 2) := by decide +kernel
theorem dL_changes_273 : decode cL_changes 273 = .ok (.aastore, 1) := by decide +kernel
theorem dL_changes_274 : decode cL_changes 274 = .ok (.aload_n 0, 1) := by decide +kernel
theorem dL_changes_275 : decode cL_changes 275 = .ok (.iload_n 3, 1) := by decide +kernel
theorem dL_changes_276 : decode cL_changes 276 = .ok (.aload 8, 2) := by decide +kernel
theorem dL_changes_278 : decode cL_changes 278 = .ok (.getfield 200, 3) := by decide +kernel
theorem dL_changes_281 : decode cL_changes 281 = .ok (.invokevirtual 284, 3) := by decide +kernel
theorem dL_changes_284 : decode cL_changes 284 = .ok (.iload 7, 2) := by decide +kernel
theorem dL_changes_286 : decode cL_changes 286 = .ok (.if_icmp .ne 7, 3) := by decide +kernel
theorem dL_changes_289 : decode cL_changes 289 = .ok (.iconst 1, 1) := by decide +kernel
theorem dL_changes_290 : decode cL_changes 290 = .ok (.goto 4, 3) := by decide +kernel
theorem dL_changes_293 : decode cL_changes 293 = .ok (.iconst 0, 1) := by decide +kernel
theorem dL_changes_294 : decode cL_changes 294 = .ok (.ireturn, 1) := by decide +kernel
theorem dL_changes_295 : decode cL_changes 295 = .ok (.aload_n 1, 1) := by decide +kernel
theorem dL_changes_296 : decode cL_changes 296 = .ok (.getfield 124, 3) := by decide +kernel
theorem dL_changes_299 : decode cL_changes 299 = .ok (.iload 6, 2) := by decide +kernel
theorem dL_changes_301 : decode cL_changes 301 = .ok (.aaload, 1) := by decide +kernel
theorem dL_changes_302 : decode cL_changes 302 = .ok (.ifnull 11, 3) := by decide +kernel
theorem dL_changes_305 : decode cL_changes 305 = .ok (.aload_n 2, 1) := by decide +kernel
theorem dL_changes_306 : decode cL_changes 306 = .ok (.iconst 2, 1) := by decide +kernel
theorem dL_changes_307 : decode cL_changes 307 = .ok (.invokestatic 35, 3) := by decide +kernel
theorem dL_changes_310 : decode cL_changes 310 = .ok (.ifCond .le 5, 3) := by decide +kernel
theorem dL_changes_313 : decode cL_changes 313 = .ok (.iconst 1, 1) := by decide +kernel
theorem dL_changes_314 : decode cL_changes 314 = .ok (.ireturn, 1) := by decide +kernel
theorem dL_changes_315 : decode cL_changes 315 = .ok (.aload_n 1, 1) := by decide +kernel
theorem dL_changes_316 : decode cL_changes 316 = .ok (.getfield 124, 3) := by decide +kernel
theorem dL_changes_319 : decode cL_changes 319 = .ok (.iload 6, 2) := by decide +kernel
theorem dL_changes_321 : decode cL_changes 321 = .ok (.aaload, 1) := by decide +kernel
theorem dL_changes_322 : decode cL_changes 322 = .ok (.getfield 206, 3) := by decide +kernel
theorem dL_changes_325 : decode cL_changes 325 = .ok (.istore 7, 2) := by decide +kernel
theorem dL_changes_327 : decode cL_changes 327 = .ok (.aload_n 1, 1) := by decide +kernel
theorem dL_changes_328 : decode cL_changes 328 = .ok (.getfield 124, 3) := by decide +kernel
theorem dL_changes_331 : decode cL_changes 331 = .ok (.iload 6, 2) := by decide +kernel
theorem dL_changes_333 : decode cL_changes 333 = .ok (.aconst_null, 1) := by decide +kernel
theorem dL_changes_334 : decode cL_changes 334 = .ok (.aastore, 1) := by decide +kernel
theorem dL_changes_335 : decode cL_changes 335 = .ok (.aload_n 0, 1) := by decide +kernel
theorem dL_changes_336 : decode cL_changes 336 = .ok (.iload 6, 2) := by decide +kernel
theorem dL_changes_338 : decode cL_changes 338 = .ok (.invokevirtual 287, 3) := by decide +kernel
theorem dL_changes_341 : decode cL_changes 341 = .ok (.iload 7, 2) := by decide +kernel
theorem dL_changes_343 : decode cL_changes 343 = .ok (.if_icmp .ne 7, 3) := by decide +kernel
theorem dL_changes_346 : decode cL_changes 346 = .ok (.iconst 1, 1) := by decide +kernel
theorem dL_changes_347 : decode cL_changes 347 = .ok (.goto 4, 3) := by decide +kernel
theorem dL_changes_350 : decode cL_changes 350 = .ok (.iconst 0, 1) := by decide +kernel
theorem dL_changes_351 : decode cL_changes 351 = .ok (.ireturn, 1) := by decide +kernel
theorem dL_changes_352 : decode cL_changes 352 = .ok (.aload_n 1, 1) := by decide +kernel
theorem dL_changes_353 : decode cL_changes 353 = .ok (.getfield 124, 3) := by decide +kernel
theorem dL_changes_356 : decode cL_changes 356 = .ok (.iload 6, 2) := by decide +kernel
theorem dL_changes_358 : decode cL_changes 358 = .ok (.aaload, 1) := by decide +kernel
theorem dL_changes_359 : decode cL_changes 359 = .ok (.ifnull 23, 3) := by decide +kernel
theorem dL_changes_362 : decode cL_changes 362 = .ok (.aload_n 0, 1) := by decide +kernel
theorem dL_changes_363 : decode cL_changes 363 = .ok (.iload 6, 2) := by decide +kernel
theorem dL_changes_365 : decode cL_changes 365 = .ok (.invokevirtual 290, 3) := by decide +kernel
theorem dL_changes_368 : decode cL_changes 368 = .ok (.aload_n 1, 1) := by decide +kernel
theorem dL_changes_369 : decode cL_changes 369 = .ok (.aload_n 1, 1) := by decide +kernel
theorem dL_changes_370 : decode cL_changes 370 = .ok (.getfield 124, 3) := by decide +kernel
theorem dL_changes_373 : decode cL_changes 373 = .ok (.iload 6, 2) := by decide +kernel
theorem dL_changes_375 : decode cL_changes 375 = .ok (.aaload, 1) := by decide +kernel
theorem dL_changes_376 : decode cL_changes 376 = .ok (.invokevirtual 293, 3) := by decide +kernel
theorem dL_changes_379 : decode cL_changes 379 = .ok (.if_icmp .ne 7, 3) := by decide +kernel
theorem dL_changes_382 : decode cL_changes 382 = .ok (.iconst 1, 1) := by decide +kernel
theorem dL_changes_383 : decode cL_changes 383 = .ok (.goto 4, 3) := by decide +kernel
theorem dL_changes_386 : decode cL_changes 386 = .ok (.iconst 0, 1) := by decide +kernel
theorem dL_changes_387 : decode cL_changes 387 = .ok (.ireturn, 1) := by decide +kernel
theorem dL_changes_388 : decode cL_changes 388 = .ok (.aload_n 1, 1) := by decide +kernel
theorem dL_changes_389 : decode cL_changes 389 = .ok (.getfield 124, 3) := by decide +kernel
theorem dL_changes_392 : decode cL_changes 392 = .ok (.iload 6, 2) := by decide +kernel
theorem dL_changes_394 : decode cL_changes 394 = .ok (.aaload, 1) := by decide +kernel
theorem dL_changes_395 : decode cL_changes 395 = .ok (.astore 7, 2) := by decide +kernel
theorem dL_changes_397 : decode cL_changes 397 = .ok (.aload 7, 2) := by decide +kernel
theorem dL_changes_399 : decode cL_changes 399 = .ok (.ifnull 35, 3) := by decide +kernel
theorem dL_changes_402 : decode cL_changes 402 = .ok (.aload 7, 2) := by decide +kernel
theorem dL_changes_404 : decode cL_changes 404 = .ok (.getfield 134, 3) := by decide +kernel
theorem dL_changes_407 : decode cL_changes 407 = .ok (.ifCond .eq 27, 3) := by decide +kernel
theorem dL_changes_410 : decode cL_changes 410 = .ok (.aload 7, 2) := by decide +kernel
theorem dL_changes_412 : decode cL_changes 412 = .ok (.getfield 209, 3) := by decide +kernel
theorem dL_changes_415 : decode cL_changes 415 = .ok (.ifCond .lt 19, 3) := by decide +kernel
theorem dL_changes_418 : decode cL_changes 418 = .ok (.aload 7, 2) := by decide +kernel
theorem dL_changes_420 : decode cL_changes 420 = .ok (.getfield 128, 3) := by decide +kernel
theorem dL_changes_423 : decode cL_changes 423 = .ok (.aload 7, 2) := by decide +kernel
theorem dL_changes_425 : decode cL_changes 425 = .ok (.getfield 209, 3) := by decide +kernel
theorem dL_changes_428 : decode cL_changes 428 = .ok (.invokevirtual 169, 3) := by decide +kernel
theorem dL_changes_431 : decode cL_changes 431 = .ok (.ifCond .ne 5, 3) := by decide +kernel
theorem dL_changes_434 : decode cL_changes 434 = .ok (.iconst 1, 1) := by decide +kernel
theorem dL_changes_435 : decode cL_changes 435 = .ok (.ireturn, 1) := by decide +kernel
theorem dL_changes_436 : decode cL_changes 436 = .ok (.aload_n 1, 1) := by decide +kernel
theorem dL_changes_437 : decode cL_changes 437 = .ok (.aload 7, 2) := by decide +kernel
theorem dL_changes_439 : decode cL_changes 439 = .ok (.getfield 128, 3) := by decide +kernel
theorem dL_changes_442 : decode cL_changes 442 = .ok (.aload 7, 2) := by decide +kernel
theorem dL_changes_444 : decode cL_changes 444 = .ok (.getfield 209, 3) := by decide +kernel
theorem dL_changes_447 : decode cL_changes 447 = .ok (.invokevirtual 88, 3) := by decide +kernel
theorem dL_changes_450 : decode cL_changes 450 = .ok (.pop, 1) := by decide +kernel
theorem dL_changes_451 : decode cL_changes 451 = .ok (.aload_n 0, 1) := by decide +kernel
theorem dL_changes_452 : decode cL_changes 452 = .ok (.iload 6, 2) := by decide +kernel
theorem dL_changes_454 : decode cL_changes 454 = .ok (.invokevirtual 296, 3) := by decide +kernel
theorem dL_changes_457 : decode cL_changes 457 = .ok (.aload 7, 2) := by decide +kernel
theorem dL_changes_459 : decode cL_changes 459 = .ok (.getfield 209, 3) := by decide +kernel
theorem dL_changes_462 : decode cL_changes 462 = .ok (.if_icmp .ne 7, 3) := by decide +kernel
theorem dL_changes_465 : decode cL_changes 465 = .ok (.iconst 1, 1) := by decide +kernel
theorem dL_changes_466 : decode cL_changes 466 = .ok (.goto 4, 3) := by decide +kernel
theorem dL_changes_469 : decode cL_changes 469 = .ok (.iconst 0, 1) := by decide +kernel
theorem dL_changes_470 : decode cL_changes 470 = .ok (.ireturn, 1) := by decide +kernel
theorem dL_changes_471 : decode cL_changes 471 = .ok (.aload_n 0, 1) := by decide +kernel
theorem dL_changes_472 : decode cL_changes 472 = .ok (.iload_n 3, 1) := by decide +kernel
theorem dL_changes_473 : decode cL_changes 473 = .ok (.iload 5, 2) := by decide +kernel
theorem dL_changes_475 : decode cL_changes 475 = .ok (.invokevirtual 299, 3) := by decide +kernel
theorem dL_changes_478 : decode cL_changes 478 = .ok (.aload_n 1, 1) := by decide +kernel
theorem dL_changes_479 : decode cL_changes 479 = .ok (.aload 4, 2) := by decide +kernel
theorem dL_changes_481 : decode cL_changes 481 = .ok (.iload 5, 2) := by decide +kernel
theorem dL_changes_483 : decode cL_changes 483 = .ok (.invokevirtual 88, 3) := by decide +kernel
theorem dL_changes_486 : decode cL_changes 486 = .ok (.if_icmp .ne 7, 3) := by decide +kernel
theorem dL_changes_489 : decode cL_changes 489 = .ok (.iconst 1, 1) := by decide +kernel
theorem dL_changes_490 : decode cL_changes 490 = .ok (.goto 4, 3) := by decide +kernel
theorem dL_changes_493 : decode cL_changes 493 = .ok (.iconst 0, 1) := by decide +kernel
theorem dL_changes_494 : decode cL_changes 494 = .ok (.ireturn, 1) := by decide +kernel
theorem dL_changes_495 : decode cL_changes 495 = .ok (.aload_n 2, 1) := by decide +kernel
theorem dL_changes_496 : decode cL_changes 496 = .ok (.aload_n 1, 1) := by decide +kernel
theorem dL_changes_497 : decode cL_changes 497 = .ok (.getfield 46, 3) := by decide +kernel
theorem dL_changes_500 : decode cL_changes 500 = .ok (.invokestatic 35, 3) := by decide +kernel
theorem dL_changes_503 : decode cL_changes 503 = .ok (.istore 7, 2) := by decide +kernel
theorem dL_changes_505 : decode cL_changes 505 = .ok (.iconst 0, 1) := by decide +kernel
theorem dL_changes_506 : decode cL_changes 506 = .ok (.istore 8, 2) := by decide +kernel
theorem dL_changes_508 : decode cL_changes 508 = .ok (.aload 4, 2) := by decide +kernel
theorem dL_changes_510 : decode cL_changes 510 = .ok (.getfield 143, 3) := by decide +kernel
theorem dL_changes_513 : decode cL_changes 513 = .ok (.iconst 1, 1) := by decide +kernel
theorem dL_changes_514 : decode cL_changes 514 = .ok (.isub, 1) := by decide +kernel
theorem dL_changes_515 : decode cL_changes 515 = .ok (.istore 9, 2) := by decide +kernel
theorem dL_changes_517 : decode cL_changes 517 = .ok (.iload 9, 2) := by decide +kernel
theorem dL_changes_519 : decode cL_changes 519 = .ok (.ifCond .lt 50, 3) := by decide +kernel
theorem dL_changes_522 : decode cL_changes 522 = .ok (.aload_n 1, 1) := by decide +kernel
theorem dL_changes_523 : decode cL_changes 523 = .ok (.getfield 80, 3) := by decide +kernel
theorem dL_changes_526 : decode cL_changes 526 = .ok (.iload 7, 2) := by decide +kernel
theorem dL_changes_528 : decode cL_changes 528 = .ok (.aaload, 1) := by decide +kernel
theorem dL_changes_529 : decode cL_changes 529 = .ok (.aload 4, 2) := by decide +kernel
theorem dL_changes_531 : decode cL_changes 531 = .ok (.getfield 160, 3) := by decide +kernel
theorem dL_changes_534 : decode cL_changes 534 = .ok (.iload 9, 2) := by decide +kernel
theorem dL_changes_536 : decode cL_changes 536 = .ok (.iaload, 1) := by decide +kernel
theorem dL_changes_537 : decode cL_changes 537 = .ok (.invokevirtual 169, 3) := by decide +kernel
theorem dL_changes_540 : decode cL_changes 540 = .ok (.ifCond .ne 23, 3) := by decide +kernel
theorem dL_changes_543 : decode cL_changes 543 = .ok (.aload_n 1, 1) := by decide +kernel
theorem dL_changes_544 : decode cL_changes 544 = .ok (.aload 4, 2) := by decide +kernel
theorem dL_changes_546 : decode cL_changes 546 = .ok (.aload 4, 2) := by decide +kernel
theorem dL_changes_548 : decode cL_changes 548 = .ok (.getfield 160, 3) := by decide +kernel
theorem dL_changes_551 : decode cL_changes 551 = .ok (.iload 9, 2) := by decide +kernel
theorem dL_changes_553 : decode cL_changes 553 = .ok (.iaload, 1) := by decide +kernel
theorem dL_changes_554 : decode cL_changes 554 = .ok (.invokevirtual 88, 3) := by decide +kernel
theorem dL_changes_557 : decode cL_changes 557 = .ok (.ifCond .eq 6, 3) := by decide +kernel
theorem dL_changes_560 : decode cL_changes 560 = .ok (.iinc 8 1, 3) := by decide +kernel
theorem dL_changes_563 : decode cL_changes 563 = .ok (.iinc 9 (-1), 3) := by decide +kernel
theorem dL_changes_566 : decode cL_changes 566 = .ok (.goto (-49), 3) := by decide +kernel
theorem dL_changes_569 : decode cL_changes 569 = .ok (.aload_n 0, 1) := by decide +kernel
theorem dL_changes_570 : decode cL_changes 570 = .ok (.iload_n 3, 1) := by decide +kernel
theorem dL_changes_571 : decode cL_changes 571 = .ok (.iload 7, 2) := by decide +kernel
theorem dL_changes_573 : decode cL_changes 573 = .ok (.invokevirtual 301, 3) := by decide +kernel
theorem dL_changes_576 : decode cL_changes 576 = .ok (.iload 8, 2) := by decide +kernel
theorem dL_changes_578 : decode cL_changes 578 = .ok (.if_icmp .ne 7, 3) := by decide +kernel
theorem dL_changes_581 : decode cL_changes 581 = .ok (.iconst 1, 1) := by decide +kernel
theorem dL_changes_582 : decode cL_changes 582 = .ok (.goto 4, 3) := by decide +kernel
theorem dL_changes_585 : decode cL_changes 585 = .ok (.iconst 0, 1) := by decide +kernel
theorem dL_changes_586 : decode cL_changes 586 = .ok (.ireturn, 1) := by decide +kernel
theorem dL_changes_587 : decode cL_changes 587 = .ok (.aload_n 2, 1) := by decide +kernel
theorem dL_changes_588 : decode cL_changes 588 = .ok (.aload_n 1, 1) := by decide +kernel
theorem dL_changes_589 : decode cL_changes 589 = .ok (.getfield 46, 3) := by decide +kernel
theorem dL_changes_592 : decode cL_changes 592 = .ok (.invokestatic 35, 3) := by decide +kernel
theorem dL_changes_595 : decode cL_changes 595 = .ok (.istore 7, 2) := by decide +kernel
theorem dL_changes_597 : decode cL_changes 597 = .ok (.aload 4, 2) := by decide +kernel
theorem dL_changes_599 : decode cL_changes 599 = .ok (.getfield 143, 3) := by decide +kernel
theorem dL_changes_602 : decode cL_changes 602 = .ok (.istore 8, 2) := by decide +kernel
theorem dL_changes_604 : decode cL_changes 604 = .ok (.iconst 0, 1) := by decide +kernel
theorem dL_changes_605 : decode cL_changes 605 = .ok (.istore 9, 2) := by decide +kernel
theorem dL_changes_607 : decode cL_changes 607 = .ok (.iload 9, 2) := by decide +kernel
theorem dL_changes_609 : decode cL_changes 609 = .ok (.aload_n 1, 1) := by decide +kernel
theorem dL_changes_610 : decode cL_changes 610 = .ok (.getfield 80, 3) := by decide +kernel
theorem dL_changes_613 : decode cL_changes 613 = .ok (.iload 7, 2) := by decide +kernel
theorem dL_changes_615 : decode cL_changes 615 = .ok (.aaload, 1) := by decide +kernel
theorem dL_changes_616 : decode cL_changes 616 = .ok (.getfield 143, 3) := by decide +kernel
theorem dL_changes_619 : decode cL_changes 619 = .ok (.if_icmp .ge 34, 3) := by decide +kernel
theorem dL_changes_622 : decode cL_changes 622 = .ok (.iload 7, 2) := by decide +kernel
theorem dL_changes_624 : decode cL_changes 624 = .ok (.iload_n 3, 1) := by decide +kernel
theorem dL_changes_625 : decode cL_changes 625 = .ok (.if_icmp .eq 28, 3) := by decide +kernel
theorem dL_changes_628 : decode cL_changes 628 = .ok (.aload_n 1, 1) := by decide +kernel
theorem dL_changes_629 : decode cL_changes 629 = .ok (.aload 4, 2) := by decide +kernel
theorem dL_changes_631 : decode cL_changes 631 = .ok (.aload_n 1, 1) := by decide +kernel
theorem dL_changes_632 : decode cL_changes 632 = .ok (.getfield 80, 3) := by decide +kernel
theorem dL_changes_635 : decode cL_changes 635 = .ok (.iload 7, 2) := by decide +kernel
theorem dL_changes_637 : decode cL_changes 637 = .ok (.aaload, 1) := by decide +kernel
theorem dL_changes_638 : decode cL_changes 638 = .ok (.getfield 160, 3) := by decide +kernel
theorem dL_changes_641 : decode cL_changes 641 = .ok (.iload 9, 2) := by decide +kernel
theorem dL_changes_643 : decode cL_changes 643 = .ok (.iaload, 1) := by decide +kernel
theorem dL_changes_644 : decode cL_changes 644 = .ok (.invokevirtual 84, 3) := by decide +kernel
theorem dL_changes_647 : decode cL_changes 647 = .ok (.iinc 9 1, 3) := by decide +kernel
theorem dL_changes_650 : decode cL_changes 650 = .ok (.goto (-43), 3) := by decide +kernel
theorem dL_changes_653 : decode cL_changes 653 = .ok (.aload_n 0, 1) := by decide +kernel
theorem dL_changes_654 : decode cL_changes 654 = .ok (.iload_n 3, 1) := by decide +kernel
theorem dL_changes_655 : decode cL_changes 655 = .ok (.iload 7, 2) := by decide +kernel
theorem dL_changes_657 : decode cL_changes 657 = .ok (.invokevirtual 304, 3) := by decide +kernel
theorem dL_changes_660 : decode cL_changes 660 = .ok (.aload 4, 2) := by decide +kernel
theorem dL_changes_662 : decode cL_changes 662 = .ok (.getfield 143, 3) := by decide +kernel
theorem dL_changes_665 : decode cL_changes 665 = .ok (.iload 8, 2) := by decide +kernel
theorem dL_changes_667 : decode cL_changes 667 = .ok (.isub, 1) := by decide +kernel
theorem dL_changes_668 : decode cL_changes 668 = .ok (.if_icmp .ne 7, 3) := by decide +kernel
theorem dL_changes_671 : decode cL_changes 671 = .ok (.iconst 1, 1) := by decide +kernel
theorem dL_changes_672 : decode cL_changes 672 = .ok (.goto 4, 3) := by decide +kernel
theorem dL_changes_675 : decode cL_changes 675 = .ok (.iconst 0, 1) := by decide +kernel
theorem dL_changes_676 : decode cL_changes 676 = .ok (.ireturn, 1) := by decide +kernel
theorem dL_changes_677 : decode cL_changes 677 = .ok (.aload_n 1, 1) := by decide +kernel
theorem dL_changes_678 : decode cL_changes 678 = .ok (.aload 4, 2) := by decide +kernel
theorem dL_changes_680 : decode cL_changes 680 = .ok (.iload 5, 2) := by decide +kernel
theorem dL_changes_682 : decode cL_changes 682 = .ok (.invokevirtual 84, 3) := by decide +kernel
theorem dL_changes_685 : decode cL_changes 685 = .ok (.aload_n 0, 1) := by decide +kernel
theorem dL_changes_686 : decode cL_changes 686 = .ok (.iload_n 3, 1) := by decide +kernel
theorem dL_changes_687 : decode cL_changes 687 = .ok (.iload 5, 2) := by decide +kernel
theorem dL_changes_689 : decode cL_changes 689 = .ok (.invokevirtual 307, 3) := by decide +kernel
theorem dL_changes_692 : decode cL_changes 692 = .ok (.aload 4, 2) := by decide +kernel
theorem dL_changes_694 : decode cL_changes 694 = .ok (.getfield 163, 3) := by decide +kernel
theorem dL_changes_697 : decode cL_changes 697 = .ok (.iload 5, 2) := by decide +kernel
theorem dL_changes_699 : decode cL_changes 699 = .ok (.iaload, 1) := by decide +kernel
theorem dL_changes_700 : decode cL_changes 700 = .ok (.if_icmp .ne 7, 3) := by decide +kernel
theorem dL_changes_703 : decode cL_changes 703 = .ok (.iconst 1, 1) := by decide +kernel
theorem dL_changes_704 : decode cL_changes 704 = .ok (.goto 4, 3) := by decide +kernel
theorem dL_changes_707 : decode cL_changes 707 = .ok (.iconst 0, 1) := by decide +kernel
theorem dL_changes_708 : decode cL_changes 708 = .ok (.ireturn, 1) := by decide +kernel
theorem dL_state_0 : decode cL_state 0 = .ok (.iconst 0, 1) := by decide +kernel
theorem dL_state_1 : decode cL_state 1 = .ok (.istore_n 2, 1) := by decide +kernel
theorem dL_state_2 : decode cL_state 2 = .ok (.iload_n 2, 1) := by decide +kernel
theorem dL_state_3 : decode cL_state 3 = .ok (.aload_n 1, 1) := by decide +kernel
theorem dL_state_4 : decode cL_state 4 = .ok (.getfield 46, 3) := by decide +kernel
theorem dL_state_7 : decode cL_state 7 = .ok (.if_icmp .ge 405, 3) := by decide +kernel
theorem dL_state_10 : decode cL_state 10 = .ok (.aload_n 1, 1) := by decide +kernel
theorem dL_state_11 : decode cL_state 11 = .ok (.getfield 80, 3) := by decide +kernel
theorem dL_state_14 : decode cL_state 14 = .ok (.iload_n 2, 1) := by decide +kernel
theorem dL_state_15 : decode cL_state 15 = .ok (.aaload, 1) := by decide +kernel
theorem dL_state_16 : decode cL_state 16 = .ok (.astore_n 3, 1) := by decide +kernel
theorem dL_state_17 : decode cL_state 17 = .ok (.iconst 0, 1) := by decide +kernel
theorem dL_state_18 : decode cL_state 18 = .ok (.istore 4, 2) := by decide +kernel
theorem dL_state_20 : decode cL_state 20 = .ok (.iconst 0, 1) := by decide +kernel
theorem dL_state_21 : decode cL_state 21 = .ok (.istore 5, 2) := by decide +kernel
theorem dL_state_23 : decode cL_state 23 = .ok (.iload 5, 2) := by decide +kernel
theorem dL_state_25 : decode cL_state 25 = .ok (.bipush 6, 2) := by decide +kernel
theorem dL_state_27 : decode cL_state 27 = .ok (.if_icmp .ge 56, 3) := by decide +kernel
theorem dL_state_30 : decode cL_state 30 = .ok (.iload 4, 2) := by decide +kernel
theorem dL_state_32 : decode cL_state 32 = .ok (.aload_n 1, 1) := by decide +kernel
theorem dL_state_33 : decode cL_state 33 = .ok (.getfield 124, 3) := by decide +kernel
theorem dL_state_36 : decode cL_state 36 = .ok (.iload 5, 2) := by decide +kernel
theorem dL_state_38 : decode cL_state 38 = .ok (.aaload, 1) := by decide +kernel
theorem dL_state_39 : decode cL_state 39 = .ok (.ifnull 34, 3) := by decide +kernel
theorem dL_state_42 : decode cL_state 42 = .ok (.aload_n 1, 1) := by decide +kernel
theorem dL_state_43 : decode cL_state 43 = .ok (.getfield 124, 3) := by decide +kernel
theorem dL_state_46 : decode cL_state 46 = .ok (.iload 5, 2) := by decide +kernel
theorem dL_state_48 : decode cL_state 48 = .ok (.aaload, 1) := by decide +kernel
theorem dL_state_49 : decode cL_state 49 = .ok (.getfield 128, 3) := by decide +kernel
theorem dL_state_52 : decode cL_state 52 = .ok (.aload_n 3, 1) := by decide +kernel
theorem dL_state_53 : decode cL_state 53 = .ok (.if_acmp .ne 20, 3) := by decide +kernel
theorem dL_state_56 : decode cL_state 56 = .ok (.aload_n 1, 1) := by decide +kernel
theorem dL_state_57 : decode cL_state 57 = .ok (.getfield 124, 3) := by decide +kernel
theorem dL_state_60 : decode cL_state 60 = .ok (.iload 5, 2) := by decide +kernel
theorem dL_state_62 : decode cL_state 62 = .ok (.aaload, 1) := by decide +kernel
theorem dL_state_63 : decode cL_state 63 = .ok (.getfield 134, 3) := by decide +kernel
theorem dL_state_66 : decode cL_state 66 = .ok (.ifCond .eq 7, 3) := by decide +kernel
theorem dL_state_69 : decode cL_state 69 = .ok (.iconst 1, 1) := by decide +kernel
theorem dL_state_70 : decode cL_state 70 = .ok (.goto 4, 3) := by decide +kernel
theorem dL_state_73 : decode cL_state 73 = .ok (.iconst 0, 1) := by decide +kernel
theorem dL_state_74 : decode cL_state 74 = .ok (.iadd, 1) := by decide +kernel
theorem dL_state_75 : decode cL_state 75 = .ok (.istore 4, 2) := by decide +kernel
theorem dL_state_77 : decode cL_state 77 = .ok (.iinc 5 1, 3) := by decide +kernel
theorem dL_state_80 : decode cL_state 80 = .ok (.goto (-57), 3) := by decide +kernel
theorem dL_state_83 : decode cL_state 83 = .ok (.aload_n 3, 1) := by decide +kernel
theorem dL_state_84 : decode cL_state 84 = .ok (.aload_n 1, 1) := by decide +kernel
theorem dL_state_85 : decode cL_state 85 = .ok (.getfield 43, 3) := by decide +kernel
theorem dL_state_88 : decode cL_state 88 = .ok (.invokevirtual 138, 3) := by decide +kernel
theorem dL_state_91 : decode cL_state 91 = .ok (.istore 5, 2) := by decide +kernel
theorem dL_state_93 : decode cL_state 93 = .ok (.iconst 5, 1) := by decide +kernel
theorem dL_state_94 : decode cL_state 94 = .ok (.newarray .int, 2) := by decide +kernel
theorem dL_state_96 : decode cL_state 96 = .ok (.dup, 1) := by decide +kernel
theorem dL_state_97 : decode cL_state 97 = .ok (.iconst 0, 1) := by decide +kernel
theorem dL_state_98 : decode cL_state 98 = .ok (.aload_n 3, 1) := by decide +kernel
theorem dL_state_99 : decode cL_state 99 = .ok (.getfield 143, 3) := by decide +kernel
theorem dL_state_102 : decode cL_state 102 = .ok (.iastore, 1) := by decide +kernel
theorem dL_state_103 : decode cL_state 103 = .ok (.dup, 1) := by decide +kernel
theorem dL_state_104 : decode cL_state 104 = .ok (.iconst 1, 1) := by decide +kernel
theorem dL_state_105 : decode cL_state 105 = .ok (.aload_n 3, 1) := by decide +kernel
theorem dL_state_106 : decode cL_state 106 = .ok (.getfield 146, 3) := by decide +kernel
theorem dL_state_109 : decode cL_state 109 = .ok (.iastore, 1) := by decide +kernel
theorem dL_state_110 : decode cL_state 110 = .ok (.dup, 1) := by decide +kernel
theorem dL_state_111 : decode cL_state 111 = .ok (.iconst 2, 1) := by decide +kernel
theorem dL_state_112 : decode cL_state 112 = .ok (.aload_n 3, 1) := by decide +kernel
theorem dL_state_113 : decode cL_state 113 = .ok (.aload_n 1, 1) := by decide +kernel
theorem dL_state_114 : decode cL_state 114 = .ok (.getfield 43, 3) := by decide +kernel
theorem dL_state_117 : decode cL_state 117 = .ok (.invokevirtual 149, 3) := by decide +kernel
theorem dL_state_120 : decode cL_state 120 = .ok (.iastore, 1) := by decide +kernel
theorem dL_state_121 : decode cL_state 121 = .ok (.dup, 1) := by decide +kernel
theorem dL_state_122 : decode cL_state 122 = .ok (.iconst 3, 1) := by decide +kernel
theorem dL_state_123 : decode cL_state 123 = .ok (.iload 5, 2) := by decide +kernel
theorem dL_state_125 : decode cL_state 125 = .ok (.iastore, 1) := by decide +kernel
theorem dL_state_126 : decode cL_state 126 = .ok (.dup, 1) := by decide +kernel
theorem dL_state_127 : decode cL_state 127 = .ok (.iconst 4, 1) := by decide +kernel
theorem dL_state_128 : decode cL_state 128 = .ok (.iload 4, 2) := by decide +kernel
theorem dL_state_130 : decode cL_state 130 = .ok (.iastore, 1) := by decide +kernel
theorem dL_state_131 : decode cL_state 131 = .ok (.astore 6, 2) := by decide +kernel
theorem dL_state_133 : decode cL_state 133 = .ok (.iconst 0, 1) := by decide +kernel
theorem dL_state_134 : decode cL_state 134 = .ok (.istore 7, 2) := by decide +kernel
theorem dL_state_136 : decode cL_state 136 = .ok (.iload 7, 2) := by decide +kernel
theorem dL_state_138 : decode cL_state 138 = .ok (.iconst 5, 1) := by decide +kernel
theorem dL_state_139 : decode cL_state 139 = .ok (.if_icmp .ge 26, 3) := by decide +kernel
theorem dL_state_142 : decode cL_state 142 = .ok (.aload_n 0, 1) := by decide +kernel
theorem dL_state_143 : decode cL_state 143 = .ok (.iload_n 2, 1) := by decide +kernel
theorem dL_state_144 : decode cL_state 144 = .ok (.iload 7, 2) := by decide +kernel
theorem dL_state_146 : decode cL_state 146 = .ok (.invokevirtual 152, 3) := by decide +kernel
theorem dL_state_149 : decode cL_state 149 = .ok (.aload 6, 2) := by decide +kernel
theorem dL_state_151 : decode cL_state 151 = .ok (.iload 7, 2) := by decide +kernel
theorem dL_state_153 : decode cL_state 153 = .ok (.iaload, 1) := by decide +kernel
theorem dL_state_154 : decode cL_state 154 = .ok (.if_icmp .eq 5, 3) := by decide +kernel
theorem dL_state_157 : decode cL_state 157 = .ok (.iconst 0, 1) := by decide +kernel
theorem dL_state_158 : decode cL_state 158 = .ok (.ireturn, 1) := by decide +kernel
theorem dL_state_159 : decode cL_state 159 = .ok (.iinc 7 1, 3) := by decide +kernel
theorem dL_state_162 : decode cL_state 162 = .ok (.goto (-26), 3) := by decide +kernel
theorem dL_state_165 : decode cL_state 165 = .ok (.iconst 0, 1) := by decide +kernel
theorem dL_state_166 : decode cL_state 166 = .ok (.istore 7, 2) := by decide +kernel
theorem dL_state_168 : decode cL_state 168 = .ok (.iload 7, 2) := by decide +kernel
theorem dL_state_170 : decode cL_state 170 = .ok (.aload_n 1, 1) := by decide +kernel
theorem dL_state_171 : decode cL_state 171 = .ok (.getfield 39, 3) := by decide +kernel
theorem dL_state_174 : decode cL_state 174 = .ok (.if_icmp .ge 107, 3) := by decide +kernel
theorem dL_state_177 : decode cL_state 177 = .ok (.aload_n 0, 1) := by decide +kernel
theorem dL_state_178 : decode cL_state 178 = .ok (.iload_n 2, 1) := by decide +kernel
theorem dL_state_179 : decode cL_state 179 = .ok (.iload 7, 2) := by decide +kernel
theorem dL_state_181 : decode cL_state 181 = .ok (.iconst 0, 1) := by decide +kernel
theorem dL_state_182 : decode cL_state 182 = .ok (.invokevirtual 156, 3) := by decide +kernel
theorem dL_state_185 : decode cL_state 185 = .ok (.aload_n 3, 1) := by decide +kernel
theorem dL_state_186 : decode cL_state 186 = .ok (.getfield 160, 3) := by decide +kernel
theorem dL_state_189 : decode cL_state 189 = .ok (.iload 7, 2) := by decide +kernel
theorem dL_state_191 : decode cL_state 191 = .ok (.iaload, 1) := by decide +kernel
theorem dL_state_192 : decode cL_state 192 = .ok (.if_icmp .ne 81, 3) := by decide +kernel
theorem dL_state_195 : decode cL_state 195 = .ok (.aload_n 0, 1) := by decide +kernel
theorem dL_state_196 : decode cL_state 196 = .ok (.iload_n 2, 1) := by decide +kernel
theorem dL_state_197 : decode cL_state 197 = .ok (.iload 7, 2) := by decide +kernel
theorem dL_state_199 : decode cL_state 199 = .ok (.iconst 1, 1) := by decide +kernel
theorem dL_state_200 : decode cL_state 200 = .ok (.invokevirtual 156, 3) := by decide +kernel
theorem dL_state_203 : decode cL_state 203 = .ok (.aload_n 3, 1) := by decide +kernel
theorem dL_state_204 : decode cL_state 204 = .ok (.getfield 163, 3) := by decide +kernel
theorem dL_state_207 : decode cL_state 207 = .ok (.iload 7, 2) := by decide +kernel
theorem dL_state_209 : decode cL_state 209 = .ok (.iaload, 1) := by decide +kernel
theorem dL_state_210 : decode cL_state 210 = .ok (.if_icmp .ne 63, 3) := by decide +kernel
theorem dL_state_213 : decode cL_state 213 = .ok (.aload_n 0, 1) := by decide +kernel
theorem dL_state_214 : decode cL_state 214 = .ok (.iload_n 2, 1) := by decide +kernel
theorem dL_state_215 : decode cL_state 215 = .ok (.iload 7, 2) := by decide +kernel
theorem dL_state_217 : decode cL_state 217 = .ok (.invokevirtual 166, 3) := by decide +kernel
theorem dL_state_220 : decode cL_state 220 = .ok (.aload_n 3, 1) := by decide +kernel
theorem dL_state_221 : decode cL_state 221 = .ok (.iload 7, 2) := by decide +kernel
theorem dL_state_223 : decode cL_state 223 = .ok (.invokevirtual 169, 3) := by decide +kernel
theorem dL_state_226 : decode cL_state 226 = .ok (.ifCond .eq 13, 3) := by decide +kernel
theorem dL_state_229 : decode cL_state 229 = .ok (.aload_n 3, 1) := by decide +kernel
theorem dL_state_230 : decode cL_state 230 = .ok (.getfield 163, 3) := by decide +kernel
theorem dL_state_233 : decode cL_state 233 = .ok (.iload 7, 2) := by decide +kernel
theorem dL_state_235 : decode cL_state 235 = .ok (.iaload, 1) := by decide +kernel
theorem dL_state_236 : decode cL_state 236 = .ok (.goto 4, 3) := by decide +kernel
theorem dL_state_239 : decode cL_state 239 = .ok (.iconst (-1), 1) := by decide +kernel
theorem dL_state_240 : decode cL_state 240 = .ok (.if_icmp .ne 33, 3) := by decide +kernel
theorem dL_state_243 : decode cL_state 243 = .ok (.aload_n 0, 1) := by decide +kernel
theorem dL_state_244 : decode cL_state 244 = .ok (.iload_n 2, 1) := by decide +kernel
theorem dL_state_245 : decode cL_state 245 = .ok (.iload 7, 2) := by decide +kernel
theorem dL_state_247 : decode cL_state 247 = .ok (.invokevirtual 173, 3) := by decide +kernel
theorem dL_state_250 : decode cL_state 250 = .ok (.aload_n 3, 1) := by decide +kernel
theorem dL_state_251 : decode cL_state 251 = .ok (.iload 7, 2) := by decide +kernel
theorem dL_state_253 : decode cL_state 253 = .ok (.invokevirtual 169, 3) := by decide +kernel
theorem dL_state_256 : decode cL_state 256 = .ok (.ifCond .eq 13, 3) := by decide +kernel
theorem dL_state_259 : decode cL_state 259 = .ok (.aload_n 3, 1) := by decide +kernel
theorem dL_state_260 : decode cL_state 260 = .ok (.getfield 176, 3) := by decide +kernel
theorem dL_state_263 : decode cL_state 263 = .ok (.iload 7, 2) := by decide +kernel
theorem dL_state_265 : decode cL_state 265 = .ok (.iaload, 1) := by decide +kernel
theorem dL_state_266 : decode cL_state 266 = .ok (.goto 4, 3) := by decide +kernel
theorem dL_state_269 : decode cL_state 269 = .ok (.iconst (-1), 1) := by decide +kernel
theorem dL_state_270 : decode cL_state 270 = .ok (.if_icmp .eq 5, 3) := by decide +kernel
theorem dL_state_273 : decode cL_state 273 = .ok (.iconst 0, 1) := by decide +kernel
theorem dL_state_274 : decode cL_state 274 = .ok (.ireturn, 1) := by decide +kernel
theorem dL_state_275 : decode cL_state 275 = .ok (.iinc 7 1, 3) := by decide +kernel
theorem dL_state_278 : decode cL_state 278 = .ok (.goto (-110), 3) := by decide +kernel
theorem dL_state_281 : decode cL_state 281 = .ok (.iconst 0, 1) := by decide +kernel
theorem dL_state_282 : decode cL_state 282 = .ok (.istore 7, 2) := by decide +kernel
theorem dL_state_284 : decode cL_state 284 = .ok (.iload 7, 2) := by decide +kernel
theorem dL_state_286 : decode cL_state 286 = .ok (.iload 5, 2) := by decide +kernel
theorem dL_state_288 : decode cL_state 288 = .ok (.if_icmp .gt 118, 3) := by decide +kernel
theorem dL_state_291 : decode cL_state 291 = .ok (.aload_n 3, 1) := by decide +kernel
theorem dL_state_292 : decode cL_state 292 = .ok (.getfield 179, 3) := by decide +kernel
theorem dL_state_295 : decode cL_state 295 = .ok (.iload 5, 2) := by decide +kernel
theorem dL_state_297 : decode cL_state 297 = .ok (.isub, 1) := by decide +kernel
theorem dL_state_298 : decode cL_state 298 = .ok (.iload 7, 2) := by decide +kernel
theorem dL_state_300 : decode cL_state 300 = .ok (.iadd, 1) := by decide +kernel
theorem dL_state_301 : decode cL_state 301 = .ok (.istore 8, 2) := by decide +kernel
theorem dL_state_303 : decode cL_state 303 = .ok (.iload 7, 2) := by decide +kernel
theorem dL_state_305 : decode cL_state 305 = .ok (.iload 5, 2) := by decide +kernel
theorem dL_state_307 : decode cL_state 307 = .ok (.if_icmp .ge 7, 3) := by decide +kernel
theorem dL_state_310 : decode cL_state 310 = .ok (.iconst 1, 1) := by decide +kernel
theorem dL_state_311 : decode cL_state 311 = .ok (.goto 4, 3) := by decide +kernel
theorem dL_state_314 : decode cL_state 314 = .ok (.iconst 0, 1) := by decide +kernel
theorem dL_state_315 : decode cL_state 315 = .ok (.istore 9, 2) := by decide +kernel
theorem dL_state_317 : decode cL_state 317 = .ok (.aload_n 0, 1) := by decide +kernel
theorem dL_state_318 : decode cL_state 318 = .ok (.iload_n 2, 1) := by decide +kernel
theorem dL_state_319 : decode cL_state 319 = .ok (.iload 7, 2) := by decide +kernel
theorem dL_state_321 : decode cL_state 321 = .ok (.iconst 0, 1) := by decide +kernel
theorem dL_state_322 : decode cL_state 322 = .ok (.invokevirtual 182, 3) := by decide +kernel
theorem dL_state_325 : decode cL_state 325 = .ok (.iload 9, 2) := by decide +kernel
theorem dL_state_327 : decode cL_state 327 = .ok (.ifCond .eq 13, 3) := by decide +kernel
theorem dL_state_330 : decode cL_state 330 = .ok (.aload_n 3, 1) := by decide +kernel
theorem dL_state_331 : decode cL_state 331 = .ok (.getfield 186, 3) := by decide +kernel
theorem dL_state_334 : decode cL_state 334 = .ok (.iload 8, 2) := by decide +kernel
theorem dL_state_336 : decode cL_state 336 = .ok (.iaload, 1) := by decide +kernel
theorem dL_state_337 : decode cL_state 337 = .ok (.goto 4, 3) := by decide +kernel
theorem dL_state_340 : decode cL_state 340 = .ok (.iconst (-1), 1) := by decide +kernel
theorem dL_state_341 : decode cL_state 341 = .ok (.if_icmp .ne 57, 3) := by decide +kernel
theorem dL_state_344 : decode cL_state 344 = .ok (.aload_n 0, 1) := by decide +kernel
theorem dL_state_345 : decode cL_state 345 = .ok (.iload_n 2, 1) := by decide +kernel
theorem dL_state_346 : decode cL_state 346 = .ok (.iload 7, 2) := by decide +kernel
theorem dL_state_348 : decode cL_state 348 = .ok (.iconst 1, 1) := by decide +kernel
theorem dL_state_349 : decode cL_state 349 = .ok (.invokevirtual 182, 3) := by decide +kernel
theorem dL_state_352 : decode cL_state 352 = .ok (.iload 9, 2) := by decide +kernel
theorem dL_state_354 : decode cL_state 354 = .ok (.ifCond .eq 13, 3) := by decide +kernel
theorem dL_state_357 : decode cL_state 357 = .ok (.aload_n 3, 1) := by decide +kernel
theorem dL_state_358 : decode cL_state 358 = .ok (.getfield 189, 3) := by decide +kernel
theorem dL_state_361 : decode cL_state 361 = .ok (.iload 8, 2) := by decide +kernel
theorem dL_state_363 : decode cL_state 363 = .ok (.iaload, 1) := by decide +kernel
theorem dL_state_364 : decode cL_state 364 = .ok (.goto 4, 3) := by decide +kernel
theorem dL_state_367 : decode cL_state 367 = .ok (.iconst (-1), 1) := by decide +kernel
theorem dL_state_368 : decode cL_state 368 = .ok (.if_icmp .ne 30, 3) := by decide +kernel
theorem dL_state_371 : decode cL_state 371 = .ok (.aload_n 0, 1) := by decide +kernel
theorem dL_state_372 : decode cL_state 372 = .ok (.iload_n 2, 1) := by decide +kernel
theorem dL_state_373 : decode cL_state 373 = .ok (.iload 7, 2) := by decide +kernel
theorem dL_state_375 : decode cL_state 375 = .ok (.iconst 2, 1) := by decide +kernel
theorem dL_state_376 : decode cL_state 376 = .ok (.invokevirtual 182, 3) := by decide +kernel
theorem dL_state_379 : decode cL_state 379 = .ok (.iload 9, 2) := by decide +kernel
theorem dL_state_381 : decode cL_state 381 = .ok (.ifCond .eq 13, 3) := by decide +kernel
theorem dL_state_384 : decode cL_state 384 = .ok (.aload_n 3, 1) := by decide +kernel
theorem dL_state_385 : decode cL_state 385 = .ok (.getfield 192, 3) := by decide +kernel
theorem dL_state_388 : decode cL_state 388 = .ok (.iload 8, 2) := by decide +kernel
theorem dL_state_390 : decode cL_state 390 = .ok (.iaload, 1) := by decide +kernel
theorem dL_state_391 : decode cL_state 391 = .ok (.goto 4, 3) := by decide +kernel
theorem dL_state_394 : decode cL_state 394 = .ok (.iconst (-1), 1) := by decide +kernel
theorem dL_state_395 : decode cL_state 395 = .ok (.if_icmp .eq 5, 3) := by decide +kernel
theorem dL_state_398 : decode cL_state 398 = .ok (.iconst 0, 1) := by decide +kernel
theorem dL_state_399 : decode cL_state 399 = .ok (.ireturn, 1) := by decide +kernel
theorem dL_state_400 : decode cL_state 400 = .ok (.iinc 7 1, 3) := by decide +kernel
theorem dL_state_403 : decode cL_state 403 = .ok (.goto (-119), 3) := by decide +kernel
theorem dL_state_406 : decode cL_state 406 = .ok (.iinc 2 1, 3) := by decide +kernel
theorem dL_state_409 : decode cL_state 409 = .ok (.goto (-407), 3) := by decide +kernel
theorem dL_state_412 : decode cL_state 412 = .ok (.iconst 0, 1) := by decide +kernel
theorem dL_state_413 : decode cL_state 413 = .ok (.istore_n 2, 1) := by decide +kernel
theorem dL_state_414 : decode cL_state 414 = .ok (.iload_n 2, 1) := by decide +kernel
theorem dL_state_415 : decode cL_state 415 = .ok (.bipush 6, 2) := by decide +kernel
theorem dL_state_417 : decode cL_state 417 = .ok (.if_icmp .ge 201, 3) := by decide +kernel
theorem dL_state_420 : decode cL_state 420 = .ok (.aload_n 1, 1) := by decide +kernel
theorem dL_state_421 : decode cL_state 421 = .ok (.getfield 124, 3) := by decide +kernel
theorem dL_state_424 : decode cL_state 424 = .ok (.iload_n 2, 1) := by decide +kernel
theorem dL_state_425 : decode cL_state 425 = .ok (.aaload, 1) := by decide +kernel
theorem dL_state_426 : decode cL_state 426 = .ok (.astore_n 3, 1) := by decide +kernel
theorem dL_state_427 : decode cL_state 427 = .ok (.aload_n 3, 1) := by decide +kernel
theorem dL_state_428 : decode cL_state 428 = .ok (.ifnonnull 6, 3) := by decide +kernel
theorem dL_state_431 : decode cL_state 431 = .ok (.goto 181, 3) := by decide +kernel
theorem dL_state_434 : decode cL_state 434 = .ok (.bipush 7, 2) := by decide +kernel
theorem dL_state_436 : decode cL_state 436 = .ok (.newarray .int, 2) := by decide +kernel
theorem dL_state_438 : decode cL_state 438 = .ok (.dup, 1) := by decide +kernel
theorem dL_state_439 : decode cL_state 439 = .ok (.iconst 0, 1) := by decide +kernel
theorem dL_state_440 : decode cL_state 440 = .ok (.aload_n 3, 1) := by decide +kernel
theorem dL_state_441 : decode cL_state 441 = .ok (.getfield 195, 3) := by decide +kernel
theorem dL_state_444 : decode cL_state 444 = .ok (.iastore, 1) := by decide +kernel
theorem dL_state_445 : decode cL_state 445 = .ok (.dup, 1) := by decide +kernel
theorem dL_state_446 : decode cL_state 446 = .ok (.iconst 1, 1) := by decide +kernel
theorem dL_state_447 : decode cL_state 447 = .ok (.aload_n 3, 1) := by decide +kernel
theorem dL_state_448 : decode cL_state 448 = .ok (.getfield 197, 3) := by decide +kernel
theorem dL_state_451 : decode cL_state 451 = .ok (.iastore, 1) := by decide +kernel
theorem dL_state_452 : decode cL_state 452 = .ok (.dup, 1) := by decide +kernel
theorem dL_state_453 : decode cL_state 453 = .ok (.iconst 2, 1) := by decide +kernel
theorem dL_state_454 : decode cL_state 454 = .ok (.aload_n 3, 1) := by decide +kernel
theorem dL_state_455 : decode cL_state 455 = .ok (.getfield 134, 3) := by decide +kernel
theorem dL_state_458 : decode cL_state 458 = .ok (.ifCond .eq 7, 3) := by decide +kernel
theorem dL_state_461 : decode cL_state 461 = .ok (.iconst 1, 1) := by decide +kernel
theorem dL_state_462 : decode cL_state 462 = .ok (.goto 4, 3) := by decide +kernel
theorem dL_state_465 : decode cL_state 465 = .ok (.iconst 0, 1) := by decide +kernel
theorem dL_state_466 : decode cL_state 466 = .ok (.iastore, 1) := by decide +kernel
theorem dL_state_467 : decode cL_state 467 = .ok (.dup, 1) := by decide +kernel
theorem dL_state_468 : decode cL_state 468 = .ok (.iconst 3, 1) := by decide +kernel
theorem dL_state_469 : decode cL_state 469 = .ok (.aload_n 3, 1) := by decide +kernel
theorem dL_state_470 : decode cL_state 470 = .ok (.getfield 200, 3) := by decide +kernel
theorem dL_state_473 : decode cL_state 473 = .ok (.ifCond .eq 7, 3) := by decide +kernel
theorem dL_state_476 : decode cL_state 476 = .ok (.iconst 1, 1) := by decide +kernel
theorem dL_state_477 : decode cL_state 477 = .ok (.goto 4, 3) := by decide +kernel
theorem dL_state_480 : decode cL_state 480 = .ok (.iconst 0, 1) := by decide +kernel
theorem dL_state_481 : decode cL_state 481 = .ok (.iastore, 1) := by decide +kernel
theorem dL_state_482 : decode cL_state 482 = .ok (.dup, 1) := by decide +kernel
theorem dL_state_483 : decode cL_state 483 = .ok (.iconst 4, 1) := by decide +kernel
theorem dL_state_484 : decode cL_state 484 = .ok (.aload_n 3, 1) := by decide +kernel
theorem dL_state_485 : decode cL_state 485 = .ok (.getfield 203, 3) := by decide +kernel
theorem dL_state_488 : decode cL_state 488 = .ok (.iastore, 1) := by decide +kernel
theorem dL_state_489 : decode cL_state 489 = .ok (.dup, 1) := by decide +kernel
theorem dL_state_490 : decode cL_state 490 = .ok (.iconst 5, 1) := by decide +kernel
theorem dL_state_491 : decode cL_state 491 = .ok (.aload_n 3, 1) := by decide +kernel
theorem dL_state_492 : decode cL_state 492 = .ok (.getfield 206, 3) := by decide +kernel
theorem dL_state_495 : decode cL_state 495 = .ok (.iastore, 1) := by decide +kernel
theorem dL_state_496 : decode cL_state 496 = .ok (.dup, 1) := by decide +kernel
theorem dL_state_497 : decode cL_state 497 = .ok (.bipush 6, 2) := by decide +kernel
theorem dL_state_499 : decode cL_state 499 = .ok (.aload_n 3, 1) := by decide +kernel
theorem dL_state_500 : decode cL_state 500 = .ok (.getfield 209, 3) := by decide +kernel
theorem dL_state_503 : decode cL_state 503 = .ok (.iastore, 1) := by decide +kernel
theorem dL_state_504 : decode cL_state 504 = .ok (.astore 4, 2) := by decide +kernel
theorem dL_state_506 : decode cL_state 506 = .ok (.iconst 0, 1) := by decide +kernel
theorem dL_state_507 : decode cL_state 507 = .ok (.istore 5, 2) := by decide +kernel
theorem dL_state_509 : decode cL_state 509 = .ok (.iload 5, 2) := by decide +kernel
theorem dL_state_511 : decode cL_state 511 = .ok (.bipush 7, 2) := by decide +kernel
theorem dL_state_513 : decode cL_state 513 = .ok (.if_icmp .ge 26, 3) := by decide +kernel
theorem dL_state_516 : decode cL_state 516 = .ok (.aload_n 0, 1) := by decide +kernel
theorem dL_state_517 : decode cL_state 517 = .ok (.iload_n 2, 1) := by decide +kernel
theorem dL_state_518 : decode cL_state 518 = .ok (.iload 5, 2) := by decide +kernel
theorem dL_state_520 : decode cL_state 520 = .ok (.invokevirtual 212, 3) := by decide +kernel
theorem dL_state_523 : decode cL_state 523 = .ok (.aload 4, 2) := by decide +kernel
theorem dL_state_525 : decode cL_state 525 = .ok (.iload 5, 2) := by decide +kernel
theorem dL_state_527 : decode cL_state 527 = .ok (.iaload, 1) := by decide +kernel
theorem dL_state_528 : decode cL_state 528 = .ok (.if_icmp .eq 5, 3) := by decide +kernel
theorem dL_state_531 : decode cL_state 531 = .ok (.iconst 0, 1) := by decide +kernel
theorem dL_state_532 : decode cL_state 532 = .ok (.ireturn, 1) := by decide +kernel
theorem dL_state_533 : decode cL_state 533 = .ok (.iinc 5 1, 3) := by decide +kernel
theorem dL_state_536 : decode cL_state 536 = .ok (.goto (-27), 3) := by decide +kernel
theorem dL_state_539 : decode cL_state 539 = .ok (.iconst 0, 1) := by decide +kernel
theorem dL_state_540 : decode cL_state 540 = .ok (.istore 5, 2) := by decide +kernel
theorem dL_state_542 : decode cL_state 542 = .ok (.aload_n 3, 1) := by decide +kernel
theorem dL_state_543 : decode cL_state 543 = .ok (.getfield 197, 3) := by decide +kernel
theorem dL_state_546 : decode cL_state 546 = .ok (.istore 6, 2) := by decide +kernel
theorem dL_state_548 : decode cL_state 548 = .ok (.aload_n 3, 1) := by decide +kernel
theorem dL_state_549 : decode cL_state 549 = .ok (.getfield 134, 3) := by decide +kernel
theorem dL_state_552 : decode cL_state 552 = .ok (.ifCond .eq 48, 3) := by decide +kernel
theorem dL_state_555 : decode cL_state 555 = .ok (.iload 6, 2) := by decide +kernel
theorem dL_state_557 : decode cL_state 557 = .ok (.aload_n 3, 1) := by decide +kernel
theorem dL_state_558 : decode cL_state 558 = .ok (.getfield 128, 3) := by decide +kernel
theorem dL_state_561 : decode cL_state 561 = .ok (.getfield 143, 3) := by decide +kernel
theorem dL_state_564 : decode cL_state 564 = .ok (.if_icmp .ge 36, 3) := by decide +kernel
theorem dL_state_567 : decode cL_state 567 = .ok (.iload 5, 2) := by decide +kernel
theorem dL_state_569 : decode cL_state 569 = .ok (.aload_n 3, 1) := by decide +kernel
theorem dL_state_570 : decode cL_state 570 = .ok (.aload_n 3, 1) := by decide +kernel
theorem dL_state_571 : decode cL_state 571 = .ok (.getfield 128, 3) := by decide +kernel
theorem dL_state_574 : decode cL_state 574 = .ok (.getfield 160, 3) := by decide +kernel
theorem dL_state_577 : decode cL_state 577 = .ok (.iload 6, 2) := by decide +kernel
theorem dL_state_579 : decode cL_state 579 = .ok (.iaload, 1) := by decide +kernel
theorem dL_state_580 : decode cL_state 580 = .ok (.invokevirtual 214, 3) := by decide +kernel
theorem dL_state_583 : decode cL_state 583 = .ok (.ifCond .eq 7, 3) := by decide +kernel
theorem dL_state_586 : decode cL_state 586 = .ok (.iconst 1, 1) := by decide +kernel
theorem dL_state_587 : decode cL_state 587 = .ok (.goto 4, 3) := by decide +kernel
theorem dL_state_590 : decode cL_state 590 = .ok (.iconst 0, 1) := by decide +kernel
theorem dL_state_591 : decode cL_state 591 = .ok (.iadd, 1) := by decide +kernel
theorem dL_state_592 : decode cL_state 592 = .ok (.istore 5, 2) := by decide +kernel
theorem dL_state_594 : decode cL_state 594 = .ok (.iinc 6 1, 3) := by decide +kernel
theorem dL_state_597 : decode cL_state 597 = .ok (.goto (-49), 3) := by decide +kernel
theorem dL_state_600 : decode cL_state 600 = .ok (.aload_n 0, 1) := by decide +kernel
theorem dL_state_601 : decode cL_state 601 = .ok (.iload_n 2, 1) := by decide +kernel
theorem dL_state_602 : decode cL_state 602 = .ok (.invokevirtual 217, 3) := by decide +kernel
theorem dL_state_605 : decode cL_state 605 = .ok (.iload 5, 2) := by decide +kernel
theorem dL_state_607 : decode cL_state 607 = .ok (.if_icmp .eq 5, 3) := by decide +kernel
theorem dL_state_610 : decode cL_state 610 = .ok (.iconst 0, 1) := by decide +kernel
theorem dL_state_611 : decode cL_state 611 = .ok (.ireturn, 1) := by decide +kernel
theorem dL_state_612 : decode cL_state 612 = .ok (.iinc 2 1, 3) := by decide +kernel
theorem dL_state_615 : decode cL_state 615 = .ok (.goto (-201), 3) := by decide +kernel
theorem dL_state_618 : decode cL_state 618 = .ok (.bipush 7, 2) := by decide +kernel
theorem dL_state_620 : decode cL_state 620 = .ok (.newarray .int, 2) := by decide +kernel
theorem dL_state_622 : decode cL_state 622 = .ok (.dup, 1) := by decide +kernel
theorem dL_state_623 : decode cL_state 623 = .ok (.iconst 0, 1) := by decide +kernel
theorem dL_state_624 : decode cL_state 624 = .ok (.aload_n 1, 1) := by decide +kernel
theorem dL_state_625 : decode cL_state 625 = .ok (.getfield 46, 3) := by decide +kernel
theorem dL_state_628 : decode cL_state 628 = .ok (.iastore, 1) := by decide +kernel
theorem dL_state_629 : decode cL_state 629 = .ok (.dup, 1) := by decide +kernel
theorem dL_state_630 : decode cL_state 630 = .ok (.iconst 1, 1) := by decide +kernel
theorem dL_state_631 : decode cL_state 631 = .ok (.aload_n 1, 1) := by decide +kernel
theorem dL_state_632 : decode cL_state 632 = .ok (.getfield 39, 3) := by decide +kernel
theorem dL_state_635 : decode cL_state 635 = .ok (.iastore, 1) := by decide +kernel
theorem dL_state_636 : decode cL_state 636 = .ok (.dup, 1) := by decide +kernel
theorem dL_state_637 : decode cL_state 637 = .ok (.iconst 2, 1) := by decide +kernel
theorem dL_state_638 : decode cL_state 638 = .ok (.aload_n 1, 1) := by decide +kernel
theorem dL_state_639 : decode cL_state 639 = .ok (.getfield 43, 3) := by decide +kernel
theorem dL_state_642 : decode cL_state 642 = .ok (.iastore, 1) := by decide +kernel
theorem dL_state_643 : decode cL_state 643 = .ok (.dup, 1) := by decide +kernel
theorem dL_state_644 : decode cL_state 644 = .ok (.iconst 3, 1) := by decide +kernel
theorem dL_state_645 : decode cL_state 645 = .ok (.aload_n 1, 1) := by decide +kernel
theorem dL_state_646 : decode cL_state 646 = .ok (.getfield 99, 3) := by decide +kernel
theorem dL_state_649 : decode cL_state 649 = .ok (.iastore, 1) := by decide +kernel
theorem dL_state_650 : decode cL_state 650 = .ok (.dup, 1) := by decide +kernel
theorem dL_state_651 : decode cL_state 651 = .ok (.iconst 4, 1) := by decide +kernel
theorem dL_state_652 : decode cL_state 652 = .ok (.aload_n 1, 1) := by decide +kernel
theorem dL_state_653 : decode cL_state 653 = .ok (.getfield 96, 3) := by decide +kernel
theorem dL_state_656 : decode cL_state 656 = .ok (.iastore, 1) := by decide +kernel
theorem dL_state_657 : decode cL_state 657 = .ok (.dup, 1) := by decide +kernel
theorem dL_state_658 : decode cL_state 658 = .ok (.iconst 5, 1) := by decide +kernel
theorem dL_state_659 : decode cL_state 659 = .ok (.aload_n 1, 1) := by decide +kernel
theorem dL_state_660 : decode cL_state 660 = .ok (.invokevirtual 220, 3) := by decide +kernel
theorem dL_state_663 : decode cL_state 663 = .ok (.iastore, 1) := by decide +kernel
theorem dL_state_664 : decode cL_state 664 = .ok (.dup, 1) := by decide +kernel
theorem dL_state_665 : decode cL_state 665 = .ok (.bipush 6, 2) := by decide +kernel
theorem dL_state_667 : decode cL_state 667 = .ok (.aload_n 1, 1) := by decide +kernel
theorem dL_state_668 : decode cL_state 668 = .ok (.getfield 223, 3) := by decide +kernel
theorem dL_state_671 : decode cL_state 671 = .ok (.iastore, 1) := by decide +kernel
theorem dL_state_672 : decode cL_state 672 = .ok (.astore_n 2, 1) := by decide +kernel
theorem dL_state_673 : decode cL_state 673 = .ok (.iconst 0, 1) := by decide +kernel
theorem dL_state_674 : decode cL_state 674 = .ok (.istore_n 3, 1) := by decide +kernel
theorem dL_state_675 : decode cL_state 675 = .ok (.iload_n 3, 1) := by decide +kernel
theorem dL_state_676 : decode cL_state 676 = .ok (.bipush 7, 2) := by decide +kernel
theorem dL_state_678 : decode cL_state 678 = .ok (.if_icmp .ge 22, 3) := by decide +kernel
theorem dL_state_681 : decode cL_state 681 = .ok (.aload_n 0, 1) := by decide +kernel
theorem dL_state_682 : decode cL_state 682 = .ok (.iload_n 3, 1) := by decide +kernel
theorem dL_state_683 : decode cL_state 683 = .ok (.invokevirtual 226, 3) := by decide +kernel
theorem dL_state_686 : decode cL_state 686 = .ok (.aload_n 2, 1) := by decide +kernel
theorem dL_state_687 : decode cL_state 687 = .ok (.iload_n 3, 1) := by decide +kernel
theorem dL_state_688 : decode cL_state 688 = .ok (.iaload, 1) := by decide +kernel
theorem dL_state_689 : decode cL_state 689 = .ok (.if_icmp .eq 5, 3) := by decide +kernel
theorem dL_state_692 : decode cL_state 692 = .ok (.iconst 0, 1) := by decide +kernel
theorem dL_state_693 : decode cL_state 693 = .ok (.ireturn, 1) := by decide +kernel
theorem dL_state_694 : decode cL_state 694 = .ok (.iinc 3 1, 3) := by decide +kernel
theorem dL_state_697 : decode cL_state 697 = .ok (.goto (-22), 3) := by decide +kernel
theorem dL_state_700 : decode cL_state 700 = .ok (.iconst 0, 1) := by decide +kernel
theorem dL_state_701 : decode cL_state 701 = .ok (.istore_n 3, 1) := by decide +kernel
theorem dL_state_702 : decode cL_state 702 = .ok (.iload_n 3, 1) := by decide +kernel
theorem dL_state_703 : decode cL_state 703 = .ok (.bipush 9, 2) := by decide +kernel
theorem dL_state_705 : decode cL_state 705 = .ok (.if_icmp .ge 37, 3) := by decide +kernel
theorem dL_state_708 : decode cL_state 708 = .ok (.aload_n 0, 1) := by decide +kernel
theorem dL_state_709 : decode cL_state 709 = .ok (.iload_n 3, 1) := by decide +kernel
theorem dL_state_710 : decode cL_state 710 = .ok (.invokevirtual 228, 3) := by decide +kernel
theorem dL_state_713 : decode cL_state 713 = .ok (.iload_n 3, 1) := by decide +kernel
theorem dL_state_714 : decode cL_state 714 = .ok (.aload_n 1, 1) := by decide +kernel
theorem dL_state_715 : decode cL_state 715 = .ok (.getfield 96, 3) := by decide +kernel
theorem dL_state_718 : decode cL_state 718 = .ok (.if_icmp .ge 12, 3) := by decide +kernel
theorem dL_state_721 : decode cL_state 721 = .ok (.aload_n 1, 1) := by decide +kernel
theorem dL_state_722 : decode cL_state 722 = .ok (.getfield 92, 3) := by decide +kernel
theorem dL_state_725 : decode cL_state 725 = .ok (.iload_n 3, 1) := by decide +kernel
theorem dL_state_726 : decode cL_state 726 = .ok (.iaload, 1) := by decide +kernel
theorem dL_state_727 : decode cL_state 727 = .ok (.goto 4, 3) := by decide +kernel
theorem dL_state_730 : decode cL_state 730 = .ok (.iconst (-1), 1) := by decide +kernel
theorem dL_state_731 : decode cL_state 731 = .ok (.if_icmp .eq 5, 3) := by decide +kernel
theorem dL_state_734 : decode cL_state 734 = .ok (.iconst 0, 1) := by decide +kernel
theorem dL_state_735 : decode cL_state 735 = .ok (.ireturn, 1) := by decide +kernel
theorem dL_state_736 : decode cL_state 736 = .ok (.iinc 3 1, 3) := by decide +kernel
theorem dL_state_739 : decode cL_state 739 = .ok (.goto (-37), 3) := by decide +kernel
theorem dL_state_742 : decode cL_state 742 = .ok (.iconst 1, 1) := by decide +kernel
theorem dL_state_743 : decode cL_state 743 = .ok (.ireturn, 1) := by decide +kernel
theorem dL_asks_0 : decode cL_asks 0 = .ok (.aload_n 2, 1) := by decide +kernel
theorem dL_asks_1 : decode cL_asks 1 = .ok (.aload_n 1, 1) := by decide +kernel
theorem dL_asks_2 : decode cL_asks 2 = .ok (.getfield 46, 3) := by decide +kernel
theorem dL_asks_5 : decode cL_asks 5 = .ok (.invokestatic 35, 3) := by decide +kernel
theorem dL_asks_8 : decode cL_asks 8 = .ok (.istore_n 3, 1) := by decide +kernel
theorem dL_asks_9 : decode cL_asks 9 = .ok (.aload_n 2, 1) := by decide +kernel
theorem dL_asks_10 : decode cL_asks 10 = .ok (.aload_n 1, 1) := by decide +kernel
theorem dL_asks_11 : decode cL_asks 11 = .ok (.getfield 46, 3) := by decide +kernel
theorem dL_asks_14 : decode cL_asks 14 = .ok (.invokestatic 35, 3) := by decide +kernel
theorem dL_asks_17 : decode cL_asks 17 = .ok (.istore 4, 2) := by decide +kernel
theorem dL_asks_19 : decode cL_asks 19 = .ok (.aload_n 1, 1) := by decide +kernel
theorem dL_asks_20 : decode cL_asks 20 = .ok (.getfield 80, 3) := by decide +kernel
theorem dL_asks_23 : decode cL_asks 23 = .ok (.iload_n 3, 1) := by decide +kernel
theorem dL_asks_24 : decode cL_asks 24 = .ok (.aaload, 1) := by decide +kernel
theorem dL_asks_25 : decode cL_asks 25 = .ok (.astore 5, 2) := by decide +kernel
theorem dL_asks_27 : decode cL_asks 27 = .ok (.aload 5, 2) := by decide +kernel
theorem dL_asks_29 : decode cL_asks 29 = .ok (.aload_n 1, 1) := by decide +kernel
theorem dL_asks_30 : decode cL_asks 30 = .ok (.getfield 43, 3) := by decide +kernel
theorem dL_asks_33 : decode cL_asks 33 = .ok (.invokevirtual 149, 3) := by decide +kernel
theorem dL_asks_36 : decode cL_asks 36 = .ok (.istore 6, 2) := by decide +kernel
theorem dL_asks_38 : decode cL_asks 38 = .ok (.iload 6, 2) := by decide +kernel
theorem dL_asks_40 : decode cL_asks 40 = .ok (.aload_n 2, 1) := by decide +kernel
theorem dL_asks_41 : decode cL_asks 41 = .ok (.aload_n 1, 1) := by decide +kernel
theorem dL_asks_42 : decode cL_asks 42 = .ok (.getfield 99, 3) := by decide +kernel
theorem dL_asks_45 : decode cL_asks 45 = .ok (.iload 6, 2) := by decide +kernel
theorem dL_asks_47 : decode cL_asks 47 = .ok (.isub, 1) := by decide +kernel
theorem dL_asks_48 : decode cL_asks 48 = .ok (.iconst 1, 1) := by decide +kernel
theorem dL_asks_49 : decode cL_asks 49 = .ok (.iadd, 1) := by decide +kernel
theorem dL_asks_50 : decode cL_asks 50 = .ok (.invokestatic 35, 3) := by decide +kernel
theorem dL_asks_53 : decode cL_asks 53 = .ok (.iadd, 1) := by decide +kernel
theorem dL_asks_54 : decode cL_asks 54 = .ok (.istore 7, 2) := by decide +kernel
theorem dL_asks_56 : decode cL_asks 56 = .ok (.iload 6, 2) := by decide +kernel
theorem dL_asks_58 : decode cL_asks 58 = .ok (.aload_n 2, 1) := by decide +kernel
theorem dL_asks_59 : decode cL_asks 59 = .ok (.aload_n 1, 1) := by decide +kernel
theorem dL_asks_60 : decode cL_asks 60 = .ok (.getfield 99, 3) := by decide +kernel
theorem dL_asks_63 : decode cL_asks 63 = .ok (.iload 6, 2) := by decide +kernel
theorem dL_asks_65 : decode cL_asks 65 = .ok (.isub, 1) := by decide +kernel
theorem dL_asks_66 : decode cL_asks 66 = .ok (.iconst 1, 1) := by decide +kernel
theorem dL_asks_67 : decode cL_asks 67 = .ok (.iadd, 1) := by decide +kernel
theorem dL_asks_68 : decode cL_asks 68 = .ok (.invokestatic 35, 3) := by decide +kernel
theorem dL_asks_71 : decode cL_asks 71 = .ok (.iadd, 1) := by decide +kernel
theorem dL_asks_72 : decode cL_asks 72 = .ok (.istore 8, 2) := by decide +kernel
theorem dL_asks_74 : decode cL_asks 74 = .ok (.aload_n 0, 1) := by decide +kernel
theorem dL_asks_75 : decode cL_asks 75 = .ok (.iload_n 3, 1) := by decide +kernel
theorem dL_asks_76 : decode cL_asks 76 = .ok (.iload 7, 2) := by decide +kernel
theorem dL_asks_78 : decode cL_asks 78 = .ok (.invokevirtual 231, 3) := by decide +kernel
theorem dL_asks_81 : decode cL_asks 81 = .ok (.aload 5, 2) := by decide +kernel
theorem dL_asks_83 : decode cL_asks 83 = .ok (.iload 7, 2) := by decide +kernel
theorem dL_asks_85 : decode cL_asks 85 = .ok (.invokevirtual 235, 3) := by decide +kernel
theorem dL_asks_88 : decode cL_asks 88 = .ok (.lcmp, 1) := by decide +kernel
theorem dL_asks_89 : decode cL_asks 89 = .ok (.ifCond .ne 73, 3) := by decide +kernel
theorem dL_asks_92 : decode cL_asks 92 = .ok (.aload_n 0, 1) := by decide +kernel
theorem dL_asks_93 : decode cL_asks 93 = .ok (.iload_n 3, 1) := by decide +kernel
theorem dL_asks_94 : decode cL_asks 94 = .ok (.iload 7, 2) := by decide +kernel
theorem dL_asks_96 : decode cL_asks 96 = .ok (.iload 8, 2) := by decide +kernel
theorem dL_asks_98 : decode cL_asks 98 = .ok (.iconst 1, 1) := by decide +kernel
theorem dL_asks_99 : decode cL_asks 99 = .ok (.invokevirtual 238, 3) := by decide +kernel
theorem dL_asks_102 : decode cL_asks 102 = .ok (.aload 5, 2) := by decide +kernel
theorem dL_asks_104 : decode cL_asks 104 = .ok (.iload 8, 2) := by decide +kernel
theorem dL_asks_106 : decode cL_asks 106 = .ok (.invokevirtual 235, 3) := by decide +kernel
theorem dL_asks_109 : decode cL_asks 109 = .ok (.aload 5, 2) := by decide +kernel
theorem dL_asks_111 : decode cL_asks 111 = .ok (.iload 7, 2) := by decide +kernel
theorem dL_asks_113 : decode cL_asks 113 = .ok (.invokevirtual 235, 3) := by decide +kernel
theorem dL_asks_116 : decode cL_asks 116 = .ok (.ldc2_w 242, 3) := by decide +kernel
theorem dL_asks_119 : decode cL_asks 119 = .ok (.lxor, 1) := by decide +kernel
theorem dL_asks_120 : decode cL_asks 120 = .ok (.land, 1) := by decide +kernel
theorem dL_asks_121 : decode cL_asks 121 = .ok (.invokestatic 244, 3) := by decide +kernel
theorem dL_asks_124 : decode cL_asks 124 = .ok (.if_icmp .ne 38, 3) := by decide +kernel
theorem dL_asks_127 : decode cL_asks 127 = .ok (.aload_n 0, 1) := by decide +kernel
theorem dL_asks_128 : decode cL_asks 128 = .ok (.iload_n 3, 1) := by decide +kernel
theorem dL_asks_129 : decode cL_asks 129 = .ok (.iload 7, 2) := by decide +kernel
theorem dL_asks_131 : decode cL_asks 131 = .ok (.iload 8, 2) := by decide +kernel
theorem dL_asks_133 : decode cL_asks 133 = .ok (.iconst 0, 1) := by decide +kernel
theorem dL_asks_134 : decode cL_asks 134 = .ok (.invokevirtual 238, 3) := by decide +kernel
theorem dL_asks_137 : decode cL_asks 137 = .ok (.aload 5, 2) := by decide +kernel
theorem dL_asks_139 : decode cL_asks 139 = .ok (.iload 7, 2) := by decide +kernel
theorem dL_asks_141 : decode cL_asks 141 = .ok (.invokevirtual 235, 3) := by decide +kernel
theorem dL_asks_144 : decode cL_asks 144 = .ok (.aload 5, 2) := by decide +kernel
theorem dL_asks_146 : decode cL_asks 146 = .ok (.iload 8, 2) := by decide +kernel
theorem dL_asks_148 : decode cL_asks 148 = .ok (.invokevirtual 235, 3) := by decide +kernel
theorem dL_asks_151 : decode cL_asks 151 = .ok (.ldc2_w 242, 3) := by decide +kernel
theorem dL_asks_154 : decode cL_asks 154 = .ok (.lxor, 1) := by decide +kernel
theorem dL_asks_155 : decode cL_asks 155 = .ok (.land, 1) := by decide +kernel
theorem dL_asks_156 : decode cL_asks 156 = .ok (.invokestatic 244, 3) := by decide +kernel
theorem dL_asks_159 : decode cL_asks 159 = .ok (.if_icmp .eq 5, 3) := by decide +kernel
theorem dL_asks_162 : decode cL_asks 162 = .ok (.iconst 0, 1) := by decide +kernel
theorem dL_asks_163 : decode cL_asks 163 = .ok (.ireturn, 1) := by decide +kernel
theorem dL_asks_164 : decode cL_asks 164 = .ok (.iload 6, 2) := by decide +kernel
theorem dL_asks_166 : decode cL_asks 166 = .ok (.istore 9, 2) := by decide +kernel
theorem dL_asks_168 : decode cL_asks 168 = .ok (.aload 5, 2) := by decide +kernel
theorem dL_asks_170 : decode cL_asks 170 = .ok (.getfield 179, 3) := by decide +kernel
theorem dL_asks_173 : decode cL_asks 173 = .ok (.aload 5, 2) := by decide +kernel
theorem dL_asks_175 : decode cL_asks 175 = .ok (.aload_n 1, 1) := by decide +kernel
theorem dL_asks_176 : decode cL_asks 176 = .ok (.getfield 43, 3) := by decide +kernel
theorem dL_asks_179 : decode cL_asks 179 = .ok (.invokevirtual 138, 3) := by decide +kernel
theorem dL_asks_182 : decode cL_asks 182 = .ok (.isub, 1) := by decide +kernel
theorem dL_asks_183 : decode cL_asks 183 = .ok (.istore 10, 2) := by decide +kernel
theorem dL_asks_185 : decode cL_asks 185 = .ok (.iload 10, 2) := by decide +kernel
theorem dL_asks_187 : decode cL_asks 187 = .ok (.aload 5, 2) := by decide +kernel
theorem dL_asks_189 : decode cL_asks 189 = .ok (.getfield 179, 3) := by decide +kernel
theorem dL_asks_192 : decode cL_asks 192 = .ok (.if_icmp .ge 48, 3) := by decide +kernel
theorem dL_asks_195 : decode cL_asks 195 = .ok (.aload 5, 2) := by decide +kernel
theorem dL_asks_197 : decode cL_asks 197 = .ok (.aload 5, 2) := by decide +kernel
theorem dL_asks_199 : decode cL_asks 199 = .ok (.getfield 186, 3) := by decide +kernel
theorem dL_asks_202 : decode cL_asks 202 = .ok (.iload 10, 2) := by decide +kernel
theorem dL_asks_204 : decode cL_asks 204 = .ok (.iaload, 1) := by decide +kernel
theorem dL_asks_205 : decode cL_asks 205 = .ok (.invokevirtual 235, 3) := by decide +kernel
theorem dL_asks_208 : decode cL_asks 208 = .ok (.invokestatic 244, 3) := by decide +kernel
theorem dL_asks_211 : decode cL_asks 211 = .ok (.aload 5, 2) := by decide +kernel
theorem dL_asks_213 : decode cL_asks 213 = .ok (.iload 9, 2) := by decide +kernel
theorem dL_asks_215 : decode cL_asks 215 = .ok (.invokevirtual 235, 3) := by decide +kernel
theorem dL_asks_218 : decode cL_asks 218 = .ok (.invokestatic 244, 3) := by decide +kernel
theorem dL_asks_221 : decode cL_asks 221 = .ok (.if_icmp .le 13, 3) := by decide +kernel
theorem dL_asks_224 : decode cL_asks 224 = .ok (.aload 5, 2) := by decide +kernel
theorem dL_asks_226 : decode cL_asks 226 = .ok (.getfield 186, 3) := by decide +kernel
theorem dL_asks_229 : decode cL_asks 229 = .ok (.iload 10, 2) := by decide +kernel
theorem dL_asks_231 : decode cL_asks 231 = .ok (.iaload, 1) := by decide +kernel
theorem dL_asks_232 : decode cL_asks 232 = .ok (.istore 9, 2) := by decide +kernel
theorem dL_asks_234 : decode cL_asks 234 = .ok (.iinc 10 1, 3) := by decide +kernel
theorem dL_asks_237 : decode cL_asks 237 = .ok (.goto (-52), 3) := by decide +kernel
theorem dL_asks_240 : decode cL_asks 240 = .ok (.aload_n 0, 1) := by decide +kernel
theorem dL_asks_241 : decode cL_asks 241 = .ok (.iload_n 3, 1) := by decide +kernel
theorem dL_asks_242 : decode cL_asks 242 = .ok (.invokevirtual 250, 3) := by decide +kernel
theorem dL_asks_245 : decode cL_asks 245 = .ok (.iload 9, 2) := by decide +kernel
theorem dL_asks_247 : decode cL_asks 247 = .ok (.if_icmp .eq 5, 3) := by decide +kernel
theorem dL_asks_250 : decode cL_asks 250 = .ok (.iconst 0, 1) := by decide +kernel
theorem dL_asks_251 : decode cL_asks 251 = .ok (.ireturn, 1) := by decide +kernel
theorem dL_asks_252 : decode cL_asks 252 = .ok (.iconst 0, 1) := by decide +kernel
theorem dL_asks_253 : decode cL_asks 253 = .ok (.istore 10, 2) := by decide +kernel
theorem dL_asks_255 : decode cL_asks 255 = .ok (.iload 10, 2) := by decide +kernel
theorem dL_asks_257 : decode cL_asks 257 = .ok (.iconst 3, 1) := by decide +kernel
theorem dL_asks_258 : decode cL_asks 258 = .ok (.if_icmp .ge 108, 3) := by decide +kernel
theorem dL_asks_261 : decode cL_asks 261 = .ok (.aload_n 2, 1) := by decide +kernel
theorem dL_asks_262 : decode cL_asks 262 = .ok (.aload_n 1, 1) := by decide +kernel
theorem dL_asks_263 : decode cL_asks 263 = .ok (.getfield 39, 3) := by decide +kernel
theorem dL_asks_266 : decode cL_asks 266 = .ok (.invokestatic 35, 3) := by decide +kernel
theorem dL_asks_269 : decode cL_asks 269 = .ok (.istore 11, 2) := by decide +kernel
theorem dL_asks_271 : decode cL_asks 271 = .ok (.iconst (-1), 1) := by decide +kernel
theorem dL_asks_272 : decode cL_asks 272 = .ok (.istore 12, 2) := by decide +kernel
theorem dL_asks_274 : decode cL_asks 274 = .ok (.aload 5, 2) := by decide +kernel
theorem dL_asks_276 : decode cL_asks 276 = .ok (.getfield 179, 3) := by decide +kernel
theorem dL_asks_279 : decode cL_asks 279 = .ok (.aload 5, 2) := by decide +kernel
theorem dL_asks_281 : decode cL_asks 281 = .ok (.aload_n 1, 1) := by decide +kernel
theorem dL_asks_282 : decode cL_asks 282 = .ok (.getfield 43, 3) := by decide +kernel
theorem dL_asks_285 : decode cL_asks 285 = .ok (.invokevirtual 138, 3) := by decide +kernel
theorem dL_asks_288 : decode cL_asks 288 = .ok (.isub, 1) := by decide +kernel
theorem dL_asks_289 : decode cL_asks 289 = .ok (.istore 13, 2) := by decide +kernel
theorem dL_asks_291 : decode cL_asks 291 = .ok (.iload 13, 2) := by decide +kernel
theorem dL_asks_293 : decode cL_asks 293 = .ok (.aload 5, 2) := by decide +kernel
theorem dL_asks_295 : decode cL_asks 295 = .ok (.getfield 179, 3) := by decide +kernel
theorem dL_asks_298 : decode cL_asks 298 = .ok (.if_icmp .ge 48, 3) := by decide +kernel
theorem dL_asks_301 : decode cL_asks 301 = .ok (.aload 5, 2) := by decide +kernel
theorem dL_asks_303 : decode cL_asks 303 = .ok (.getfield 253, 3) := by decide +kernel
theorem dL_asks_306 : decode cL_asks 306 = .ok (.iload 13, 2) := by decide +kernel
theorem dL_asks_308 : decode cL_asks 308 = .ok (.laload, 1) := by decide +kernel
theorem dL_asks_309 : decode cL_asks 309 = .ok (.aload 5, 2) := by decide +kernel
theorem dL_asks_311 : decode cL_asks 311 = .ok (.getfield 253, 3) := by decide +kernel
theorem dL_asks_314 : decode cL_asks 314 = .ok (.iload 13, 2) := by decide +kernel
theorem dL_asks_316 : decode cL_asks 316 = .ok (.iconst 1, 1) := by decide +kernel
theorem dL_asks_317 : decode cL_asks 317 = .ok (.iadd, 1) := by decide +kernel
theorem dL_asks_318 : decode cL_asks 318 = .ok (.laload, 1) := by decide +kernel
theorem dL_asks_319 : decode cL_asks 319 = .ok (.lxor, 1) := by decide +kernel
theorem dL_asks_320 : decode cL_asks 320 = .ok (.iload 11, 2) := by decide +kernel
theorem dL_asks_322 : decode cL_asks 322 = .ok (.lshr, 1) := by decide +kernel
theorem dL_asks_323 : decode cL_asks 323 = .ok (.lconst 1, 1) := by decide +kernel
theorem dL_asks_324 : decode cL_asks 324 = .ok (.land, 1) := by decide +kernel
theorem dL_asks_325 : decode cL_asks 325 = .ok (.lconst 1, 1) := by decide +kernel
theorem dL_asks_326 : decode cL_asks 326 = .ok (.lcmp, 1) := by decide +kernel
theorem dL_asks_327 : decode cL_asks 327 = .ok (.ifCond .ne 13, 3) := by decide +kernel
theorem dL_asks_330 : decode cL_asks 330 = .ok (.aload 5, 2) := by decide +kernel
theorem dL_asks_332 : decode cL_asks 332 = .ok (.getfield 186, 3) := by decide +kernel
theorem dL_asks_335 : decode cL_asks 335 = .ok (.iload 13, 2) := by decide +kernel
theorem dL_asks_337 : decode cL_asks 337 = .ok (.iaload, 1) := by decide +kernel
theorem dL_asks_338 : decode cL_asks 338 = .ok (.istore 12, 2) := by decide +kernel
theorem dL_asks_340 : decode cL_asks 340 = .ok (.iinc 13 1, 3) := by decide +kernel
theorem dL_asks_343 : decode cL_asks 343 = .ok (.goto (-52), 3) := by decide +kernel
theorem dL_asks_346 : decode cL_asks 346 = .ok (.aload_n 0, 1) := by decide +kernel
theorem dL_asks_347 : decode cL_asks 347 = .ok (.iload_n 3, 1) := by decide +kernel
theorem dL_asks_348 : decode cL_asks 348 = .ok (.iload 11, 2) := by decide +kernel
theorem dL_asks_350 : decode cL_asks 350 = .ok (.invokevirtual 257, 3) := by decide +kernel
theorem dL_asks_353 : decode cL_asks 353 = .ok (.iload 12, 2) := by decide +kernel
theorem dL_asks_355 : decode cL_asks 355 = .ok (.if_icmp .eq 5, 3) := by decide +kernel
theorem dL_asks_358 : decode cL_asks 358 = .ok (.iconst 0, 1) := by decide +kernel
theorem dL_asks_359 : decode cL_asks 359 = .ok (.ireturn, 1) := by decide +kernel
theorem dL_asks_360 : decode cL_asks 360 = .ok (.iinc 10 1, 3) := by decide +kernel
theorem dL_asks_363 : decode cL_asks 363 = .ok (.goto (-108), 3) := by decide +kernel
theorem dL_asks_366 : decode cL_asks 366 = .ok (.aload 5, 2) := by decide +kernel
theorem dL_asks_368 : decode cL_asks 368 = .ok (.invokevirtual 260, 3) := by decide +kernel
theorem dL_asks_371 : decode cL_asks 371 = .ok (.lstore 10, 2) := by decide +kernel
theorem dL_asks_373 : decode cL_asks 373 = .ok (.aload_n 1, 1) := by decide +kernel
theorem dL_asks_374 : decode cL_asks 374 = .ok (.getfield 80, 3) := by decide +kernel
theorem dL_asks_377 : decode cL_asks 377 = .ok (.iload 4, 2) := by decide +kernel
theorem dL_asks_379 : decode cL_asks 379 = .ok (.aaload, 1) := by decide +kernel
theorem dL_asks_380 : decode cL_asks 380 = .ok (.invokevirtual 260, 3) := by decide +kernel
theorem dL_asks_383 : decode cL_asks 383 = .ok (.lstore 12, 2) := by decide +kernel
theorem dL_asks_385 : decode cL_asks 385 = .ok (.lload 10, 2) := by decide +kernel
theorem dL_asks_387 : decode cL_asks 387 = .ok (.lload 12, 2) := by decide +kernel
theorem dL_asks_389 : decode cL_asks 389 = .ok (.land, 1) := by decide +kernel
theorem dL_asks_390 : decode cL_asks 390 = .ok (.invokestatic 244, 3) := by decide +kernel
theorem dL_asks_393 : decode cL_asks 393 = .ok (.istore 14, 2) := by decide +kernel
theorem dL_asks_395 : decode cL_asks 395 = .ok (.lload 10, 2) := by decide +kernel
theorem dL_asks_397 : decode cL_asks 397 = .ok (.lload 12, 2) := by decide +kernel
theorem dL_asks_399 : decode cL_asks 399 = .ok (.lor, 1) := by decide +kernel
theorem dL_asks_400 : decode cL_asks 400 = .ok (.invokestatic 244, 3) := by decide +kernel
theorem dL_asks_403 : decode cL_asks 403 = .ok (.istore 15, 2) := by decide +kernel
theorem dL_asks_405 : decode cL_asks 405 = .ok (.aload_n 0, 1) := by decide +kernel
theorem dL_asks_406 : decode cL_asks 406 = .ok (.iload_n 3, 1) := by decide +kernel
theorem dL_asks_407 : decode cL_asks 407 = .ok (.iload 4, 2) := by decide +kernel
theorem dL_asks_409 : decode cL_asks 409 = .ok (.invokevirtual 264, 3) := by decide +kernel
theorem dL_asks_412 : decode cL_asks 412 = .ok (.iload 14, 2) := by decide +kernel
theorem dL_asks_414 : decode cL_asks 414 = .ok (.if_icmp .ne 63, 3) := by decide +kernel
theorem dL_asks_417 : decode cL_asks 417 = .ok (.aload_n 0, 1) := by decide +kernel
theorem dL_asks_418 : decode cL_asks 418 = .ok (.iload_n 3, 1) := by decide +kernel
theorem dL_asks_419 : decode cL_asks 419 = .ok (.iload 4, 2) := by decide +kernel
theorem dL_asks_421 : decode cL_asks 421 = .ok (.invokevirtual 267, 3) := by decide +kernel
theorem dL_asks_424 : decode cL_asks 424 = .ok (.lload 10, 2) := by decide +kernel
theorem dL_asks_426 : decode cL_asks 426 = .ok (.lload 12, 2) := by decide +kernel
theorem dL_asks_428 : decode cL_asks 428 = .ok (.ldc2_w 242, 3) := by decide +kernel
theorem dL_asks_431 : decode cL_asks 431 = .ok (.lxor, 1) := by decide +kernel
theorem dL_asks_432 : decode cL_asks 432 = .ok (.land, 1) := by decide +kernel
theorem dL_asks_433 : decode cL_asks 433 = .ok (.lconst 0, 1) := by decide +kernel
theorem dL_asks_434 : decode cL_asks 434 = .ok (.lcmp, 1) := by decide +kernel
theorem dL_asks_435 : decode cL_asks 435 = .ok (.ifCond .ne 7, 3) := by decide +kernel
theorem dL_asks_438 : decode cL_asks 438 = .ok (.iconst 1, 1) := by decide +kernel
theorem dL_asks_439 : decode cL_asks 439 = .ok (.goto 4, 3) := by decide +kernel
theorem dL_asks_442 : decode cL_asks 442 = .ok (.iconst 0, 1) := by decide +kernel
theorem dL_asks_443 : decode cL_asks 443 = .ok (.if_icmp .ne 34, 3) := by decide +kernel
theorem dL_asks_446 : decode cL_asks 446 = .ok (.aload_n 0, 1) := by decide +kernel
theorem dL_asks_447 : decode cL_asks 447 = .ok (.iload_n 3, 1) := by decide +kernel
theorem dL_asks_448 : decode cL_asks 448 = .ok (.iload 4, 2) := by decide +kernel
theorem dL_asks_450 : decode cL_asks 450 = .ok (.invokevirtual 271, 3) := by decide +kernel
theorem dL_asks_453 : decode cL_asks 453 = .ok (.iload 15, 2) := by decide +kernel
theorem dL_asks_455 : decode cL_asks 455 = .ok (.ifCond .ne 7, 3) := by decide +kernel
theorem dL_asks_458 : decode cL_asks 458 = .ok (.dconst 1, 1) := by decide +kernel
theorem dL_asks_459 : decode cL_asks 459 = .ok (.goto 10, 3) := by decide +kernel
theorem dL_asks_462 : decode cL_asks 462 = .ok (.iload 14, 2) := by decide +kernel
theorem dL_asks_464 : decode cL_asks 464 = .ok (.i2d, 1) := by decide +kernel
theorem dL_asks_465 : decode cL_asks 465 = .ok (.iload 15, 2) := by decide +kernel
theorem dL_asks_467 : decode cL_asks 467 = .ok (.i2d, 1) := by decide +kernel
theorem dL_asks_468 : decode cL_asks 468 = .ok (.ddiv, 1) := by decide +kernel
theorem dL_asks_469 : decode cL_asks 469 = .ok (.dcmp .l, 1) := by decide +kernel
theorem dL_asks_470 : decode cL_asks 470 = .ok (.ifCond .ne 7, 3) := by decide +kernel
theorem dL_asks_473 : decode cL_asks 473 = .ok (.iconst 1, 1) := by decide +kernel
theorem dL_asks_474 : decode cL_asks 474 = .ok (.goto 4, 3) := by decide +kernel
theorem dL_asks_477 : decode cL_asks 477 = .ok (.iconst 0, 1) := by decide +kernel
theorem dL_asks_478 : decode cL_asks 478 = .ok (.ireturn, 1) := by decide +kernel
theorem dL_plays_0 : decode cL_plays 0 = .ok (.new 32, 3) := by decide +kernel
theorem dL_plays_3 : decode cL_plays 3 = .ok (.dup, 1) := by decide +kernel
theorem dL_plays_4 : decode cL_plays 4 = .ok (.invokespecial 34, 3) := by decide +kernel
theorem dL_plays_7 : decode cL_plays 7 = .ok (.astore_n 2, 1) := by decide +kernel
theorem dL_plays_8 : decode cL_plays 8 = .ok (.aload_n 2, 1) := by decide +kernel
theorem dL_plays_9 : decode cL_plays 9 = .ok (.aload_n 1, 1) := by decide +kernel
theorem dL_plays_10 : decode cL_plays 10 = .ok (.iconst 3, 1) := by decide +kernel
theorem dL_plays_11 : decode cL_plays 11 = .ok (.invokestatic 35, 3) := by decide +kernel
theorem dL_plays_14 : decode cL_plays 14 = .ok (.ifCond .ne 14, 3) := by decide +kernel
theorem dL_plays_17 : decode cL_plays 17 = .ok (.iconst 1, 1) := by decide +kernel
theorem dL_plays_18 : decode cL_plays 18 = .ok (.aload_n 1, 1) := by decide +kernel
theorem dL_plays_19 : decode cL_plays 19 = .ok (.bipush 64, 2) := by decide +kernel
theorem dL_plays_21 : decode cL_plays 21 = .ok (.invokestatic 35, 3) := by decide +kernel
theorem dL_plays_24 : decode cL_plays 24 = .ok (.iadd, 1) := by decide +kernel
theorem dL_plays_25 : decode cL_plays 25 = .ok (.goto 11, 3) := by decide +kernel
theorem dL_plays_28 : decode cL_plays 28 = .ok (.iconst 2, 1) := by decide +kernel
theorem dL_plays_29 : decode cL_plays 29 = .ok (.aload_n 1, 1) := by decide +kernel
theorem dL_plays_30 : decode cL_plays 30 = .ok (.bipush 10, 2) := by decide +kernel
theorem dL_plays_32 : decode cL_plays 32 = .ok (.invokestatic 35, 3) := by decide +kernel
theorem dL_plays_35 : decode cL_plays 35 = .ok (.iadd, 1) := by decide +kernel
theorem dL_plays_36 : decode cL_plays 36 = .ok (.putfield 39, 3) := by decide +kernel
theorem dL_plays_39 : decode cL_plays 39 = .ok (.aload_n 2, 1) := by decide +kernel
theorem dL_plays_40 : decode cL_plays 40 = .ok (.iconst 1, 1) := by decide +kernel
theorem dL_plays_41 : decode cL_plays 41 = .ok (.aload_n 1, 1) := by decide +kernel
theorem dL_plays_42 : decode cL_plays 42 = .ok (.aload_n 1, 1) := by decide +kernel
theorem dL_plays_43 : decode cL_plays 43 = .ok (.iconst 2, 1) := by decide +kernel
theorem dL_plays_44 : decode cL_plays 44 = .ok (.invokestatic 35, 3) := by decide +kernel
theorem dL_plays_47 : decode cL_plays 47 = .ok (.ifCond .ne 8, 3) := by decide +kernel
theorem dL_plays_50 : decode cL_plays 50 = .ok (.bipush 60, 2) := by decide +kernel
theorem dL_plays_52 : decode cL_plays 52 = .ok (.goto 5, 3) := by decide +kernel
theorem dL_plays_55 : decode cL_plays 55 = .ok (.bipush 8, 2) := by decide +kernel
theorem dL_plays_57 : decode cL_plays 57 = .ok (.invokestatic 35, 3) := by decide +kernel
theorem dL_plays_60 : decode cL_plays 60 = .ok (.iadd, 1) := by decide +kernel
theorem dL_plays_61 : decode cL_plays 61 = .ok (.putfield 43, 3) := by decide +kernel
theorem dL_plays_64 : decode cL_plays 64 = .ok (.aload_n 2, 1) := by decide +kernel
theorem dL_plays_65 : decode cL_plays 65 = .ok (.iconst 1, 1) := by decide +kernel
theorem dL_plays_66 : decode cL_plays 66 = .ok (.aload_n 1, 1) := by decide +kernel
theorem dL_plays_67 : decode cL_plays 67 = .ok (.iconst 4, 1) := by decide +kernel
theorem dL_plays_68 : decode cL_plays 68 = .ok (.invokestatic 35, 3) := by decide +kernel
theorem dL_plays_71 : decode cL_plays 71 = .ok (.iadd, 1) := by decide +kernel
theorem dL_plays_72 : decode cL_plays 72 = .ok (.putfield 46, 3) := by decide +kernel
theorem dL_plays_75 : decode cL_plays 75 = .ok (.new 49, 3) := by decide +kernel
theorem dL_plays_78 : decode cL_plays 78 = .ok (.dup, 1) := by decide +kernel
theorem dL_plays_79 : decode cL_plays 79 = .ok (.new 49, 3) := by decide +kernel
theorem dL_plays_82 : decode cL_plays 82 = .ok (.dup, 1) := by decide +kernel
theorem dL_plays_83 : decode cL_plays 83 = .ok (.invokespecial 51, 3) := by decide +kernel
theorem dL_plays_86 : decode cL_plays 86 = .ok (.ldc 52, 2) := by decide +kernel
theorem dL_plays_88 : decode cL_plays 88 = .ok (.invokevirtual 54, 3) := by decide +kernel
theorem dL_plays_91 : decode cL_plays 91 = .ok (.aload_n 2, 1) := by decide +kernel
theorem dL_plays_92 : decode cL_plays 92 = .ok (.getfield 39, 3) := by decide +kernel
theorem dL_plays_95 : decode cL_plays 95 = .ok (.invokevirtual 57, 3) := by decide +kernel
theorem dL_plays_98 : decode cL_plays 98 = .ok (.ldc 60, 2) := by decide +kernel
theorem dL_plays_100 : decode cL_plays 100 = .ok (.invokevirtual 54, 3) := by decide +kernel
theorem dL_plays_103 : decode cL_plays 103 = .ok (.aload_n 2, 1) := by decide +kernel
theorem dL_plays_104 : decode cL_plays 104 = .ok (.getfield 43, 3) := by decide +kernel
theorem dL_plays_107 : decode cL_plays 107 = .ok (.invokevirtual 57, 3) := by decide +kernel
theorem dL_plays_110 : decode cL_plays 110 = .ok (.ldc 62, 2) := by decide +kernel
theorem dL_plays_112 : decode cL_plays 112 = .ok (.invokevirtual 54, 3) := by decide +kernel
theorem dL_plays_115 : decode cL_plays 115 = .ok (.invokevirtual 64, 3) := by decide +kernel
theorem dL_plays_118 : decode cL_plays 118 = .ok (.invokespecial 68, 3) := by decide +kernel
theorem dL_plays_121 : decode cL_plays 121 = .ok (.astore_n 3, 1) := by decide +kernel
theorem dL_plays_122 : decode cL_plays 122 = .ok (.iconst 0, 1) := by decide +kernel
theorem dL_plays_123 : decode cL_plays 123 = .ok (.istore 4, 2) := by decide +kernel
theorem dL_plays_125 : decode cL_plays 125 = .ok (.iload 4, 2) := by decide +kernel
theorem dL_plays_127 : decode cL_plays 127 = .ok (.aload_n 2, 1) := by decide +kernel
theorem dL_plays_128 : decode cL_plays 128 = .ok (.getfield 46, 3) := by decide +kernel
theorem dL_plays_131 : decode cL_plays 131 = .ok (.if_icmp .ge 30, 3) := by decide +kernel
theorem dL_plays_134 : decode cL_plays 134 = .ok (.aload_n 3, 1) := by decide +kernel
theorem dL_plays_135 : decode cL_plays 135 = .ok (.ldc 71, 2) := by decide +kernel
theorem dL_plays_137 : decode cL_plays 137 = .ok (.invokevirtual 54, 3) := by decide +kernel
theorem dL_plays_140 : decode cL_plays 140 = .ok (.bipush 97, 2) := by decide +kernel
theorem dL_plays_142 : decode cL_plays 142 = .ok (.iload 4, 2) := by decide +kernel
theorem dL_plays_144 : decode cL_plays 144 = .ok (.iadd, 1) := by decide +kernel
theorem dL_plays_145 : decode cL_plays 145 = .ok (.i2c, 1) := by decide +kernel
theorem dL_plays_146 : decode cL_plays 146 = .ok (.invokevirtual 73, 3) := by decide +kernel
theorem dL_plays_149 : decode cL_plays 149 = .ok (.bipush 59, 2) := by decide +kernel
theorem dL_plays_151 : decode cL_plays 151 = .ok (.invokevirtual 73, 3) := by decide +kernel
theorem dL_plays_154 : decode cL_plays 154 = .ok (.pop, 1) := by decide +kernel
theorem dL_plays_155 : decode cL_plays 155 = .ok (.iinc 4 1, 3) := by decide +kernel
theorem dL_plays_158 : decode cL_plays 158 = .ok (.goto (-33), 3) := by decide +kernel
theorem dL_plays_161 : decode cL_plays 161 = .ok (.aload_n 1, 1) := by decide +kernel
theorem dL_plays_162 : decode cL_plays 162 = .ok (.iconst 5, 1) := by decide +kernel
theorem dL_plays_163 : decode cL_plays 163 = .ok (.invokestatic 35, 3) := by decide +kernel
theorem dL_plays_166 : decode cL_plays 166 = .ok (.istore 4, 2) := by decide +kernel
theorem dL_plays_168 : decode cL_plays 168 = .ok (.iload 4, 2) := by decide +kernel
theorem dL_plays_170 : decode cL_plays 170 = .ok (.ifCond .le 183, 3) := by decide +kernel
theorem dL_plays_173 : decode cL_plays 173 = .ok (.aload_n 1, 1) := by decide +kernel
theorem dL_plays_174 : decode cL_plays 174 = .ok (.aload_n 2, 1) := by decide +kernel
theorem dL_plays_175 : decode cL_plays 175 = .ok (.getfield 46, 3) := by decide +kernel
theorem dL_plays_178 : decode cL_plays 178 = .ok (.invokestatic 35, 3) := by decide +kernel
theorem dL_plays_181 : decode cL_plays 181 = .ok (.istore 5, 2) := by decide +kernel
theorem dL_plays_183 : decode cL_plays 183 = .ok (.aload_n 1, 1) := by decide +kernel
theorem dL_plays_184 : decode cL_plays 184 = .ok (.iconst 3, 1) := by decide +kernel
theorem dL_plays_185 : decode cL_plays 185 = .ok (.invokestatic 35, 3) := by decide +kernel
theorem dL_plays_188 : decode cL_plays 188 = .ok (.ifCond .le 7, 3) := by decide +kernel
theorem dL_plays_191 : decode cL_plays 191 = .ok (.iconst 1, 1) := by decide +kernel
theorem dL_plays_192 : decode cL_plays 192 = .ok (.goto 4, 3) := by decide +kernel
theorem dL_plays_195 : decode cL_plays 195 = .ok (.iconst 0, 1) := by decide +kernel
theorem dL_plays_196 : decode cL_plays 196 = .ok (.istore 6, 2) := by decide +kernel
theorem dL_plays_198 : decode cL_plays 198 = .ok (.aload_n 3, 1) := by decide +kernel
theorem dL_plays_199 : decode cL_plays 199 = .ok (.iload 6, 2) := by decide +kernel
theorem dL_plays_201 : decode cL_plays 201 = .ok (.ifCond .eq 8, 3) := by decide +kernel
theorem dL_plays_204 : decode cL_plays 204 = .ok (.ldc 76, 2) := by decide +kernel
theorem dL_plays_206 : decode cL_plays 206 = .ok (.goto 5, 3) := by decide +kernel
theorem dL_plays_209 : decode cL_plays 209 = .ok (.ldc 78, 2) := by decide +kernel
theorem dL_plays_211 : decode cL_plays 211 = .ok (.invokevirtual 54, 3) := by decide +kernel
theorem dL_plays_214 : decode cL_plays 214 = .ok (.bipush 97, 2) := by decide +kernel
theorem dL_plays_216 : decode cL_plays 216 = .ok (.iload 5, 2) := by decide +kernel
theorem dL_plays_218 : decode cL_plays 218 = .ok (.iadd, 1) := by decide +kernel
theorem dL_plays_219 : decode cL_plays 219 = .ok (.i2c, 1) := by decide +kernel
theorem dL_plays_220 : decode cL_plays 220 = .ok (.invokevirtual 73, 3) := by decide +kernel
theorem dL_plays_223 : decode cL_plays 223 = .ok (.pop, 1) := by decide +kernel
theorem dL_plays_224 : decode cL_plays 224 = .ok (.iconst 1, 1) := by decide +kernel
theorem dL_plays_225 : decode cL_plays 225 = .ok (.aload_n 1, 1) := by decide +kernel
theorem dL_plays_226 : decode cL_plays 226 = .ok (.bipush 6, 2) := by decide +kernel
theorem dL_plays_228 : decode cL_plays 228 = .ok (.invokestatic 35, 3) := by decide +kernel
theorem dL_plays_231 : decode cL_plays 231 = .ok (.iadd, 1) := by decide +kernel
theorem dL_plays_232 : decode cL_plays 232 = .ok (.istore 7, 2) := by decide +kernel
theorem dL_plays_234 : decode cL_plays 234 = .ok (.iload 7, 2) := by decide +kernel
theorem dL_plays_236 : decode cL_plays 236 = .ok (.ifCond .le 66, 3) := by decide +kernel
theorem dL_plays_239 : decode cL_plays 239 = .ok (.aload_n 1, 1) := by decide +kernel
theorem dL_plays_240 : decode cL_plays 240 = .ok (.aload_n 2, 1) := by decide +kernel
theorem dL_plays_241 : decode cL_plays 241 = .ok (.getfield 39, 3) := by decide +kernel
theorem dL_plays_244 : decode cL_plays 244 = .ok (.invokestatic 35, 3) := by decide +kernel
theorem dL_plays_247 : decode cL_plays 247 = .ok (.istore 8, 2) := by decide +kernel
theorem dL_plays_249 : decode cL_plays 249 = .ok (.iload 6, 2) := by decide +kernel
theorem dL_plays_251 : decode cL_plays 251 = .ok (.ifCond .eq 19, 3) := by decide +kernel
theorem dL_plays_254 : decode cL_plays 254 = .ok (.aload_n 2, 1) := by decide +kernel
theorem dL_plays_255 : decode cL_plays 255 = .ok (.aload_n 2, 1) := by decide +kernel
theorem dL_plays_256 : decode cL_plays 256 = .ok (.getfield 80, 3) := by decide +kernel
theorem dL_plays_259 : decode cL_plays 259 = .ok (.iload 5, 2) := by decide +kernel
theorem dL_plays_261 : decode cL_plays 261 = .ok (.aaload, 1) := by decide +kernel
theorem dL_plays_262 : decode cL_plays 262 = .ok (.iload 8, 2) := by decide +kernel
theorem dL_plays_264 : decode cL_plays 264 = .ok (.invokevirtual 84, 3) := by decide +kernel
theorem dL_plays_267 : decode cL_plays 267 = .ok (.goto 17, 3) := by decide +kernel
theorem dL_plays_270 : decode cL_plays 270 = .ok (.aload_n 2, 1) := by decide +kernel
theorem dL_plays_271 : decode cL_plays 271 = .ok (.aload_n 2, 1) := by decide +kernel
theorem dL_plays_272 : decode cL_plays 272 = .ok (.getfield 80, 3) := by decide +kernel
theorem dL_plays_275 : decode cL_plays 275 = .ok (.iload 5, 2) := by decide +kernel
theorem dL_plays_277 : decode cL_plays 277 = .ok (.aaload, 1) := by decide +kernel
theorem dL_plays_278 : decode cL_plays 278 = .ok (.iload 8, 2) := by decide +kernel
theorem dL_plays_280 : decode cL_plays 280 = .ok (.invokevirtual 88, 3) := by decide +kernel
theorem dL_plays_283 : decode cL_plays 283 = .ok (.pop, 1) := by decide +kernel
theorem dL_plays_284 : decode cL_plays 284 = .ok (.aload_n 3, 1) := by decide +kernel
theorem dL_plays_285 : decode cL_plays 285 = .ok (.bipush 32, 2) := by decide +kernel
theorem dL_plays_287 : decode cL_plays 287 = .ok (.invokevirtual 73, 3) := by decide +kernel
theorem dL_plays_290 : decode cL_plays 290 = .ok (.iload 8, 2) := by decide +kernel
theorem dL_plays_292 : decode cL_plays 292 = .ok (.invokevirtual 57, 3) := by decide +kernel
theorem dL_plays_295 : decode cL_plays 295 = .ok (.pop, 1) := by decide +kernel
theorem dL_plays_296 : decode cL_plays 296 = .ok (.iinc 7 (-1), 3) := by decide +kernel
theorem dL_plays_299 : decode cL_plays 299 = .ok (.goto (-65), 3) := by decide +kernel
theorem dL_plays_302 : decode cL_plays 302 = .ok (.aload_n 3, 1) := by decide +kernel
theorem dL_plays_303 : decode cL_plays 303 = .ok (.bipush 59, 2) := by decide +kernel
theorem dL_plays_305 : decode cL_plays 305 = .ok (.invokevirtual 73, 3) := by decide +kernel
theorem dL_plays_308 : decode cL_plays 308 = .ok (.pop, 1) := by decide +kernel
theorem dL_plays_309 : decode cL_plays 309 = .ok (.aload_n 1, 1) := by decide +kernel
theorem dL_plays_310 : decode cL_plays 310 = .ok (.iconst 3, 1) := by decide +kernel
theorem dL_plays_311 : decode cL_plays 311 = .ok (.invokestatic 35, 3) := by decide +kernel
theorem dL_plays_314 : decode cL_plays 314 = .ok (.ifCond .le 6, 3) := by decide +kernel
theorem dL_plays_317 : decode cL_plays 317 = .ok (.goto 30, 3) := by decide +kernel
theorem dL_plays_320 : decode cL_plays 320 = .ok (.aload_n 2, 1) := by decide +kernel
theorem dL_plays_321 : decode cL_plays 321 = .ok (.getfield 92, 3) := by decide +kernel
theorem dL_plays_324 : decode cL_plays 324 = .ok (.aload_n 2, 1) := by decide +kernel
theorem dL_plays_325 : decode cL_plays 325 = .ok (.dup, 1) := by decide +kernel
theorem dL_plays_326 : decode cL_plays 326 = .ok (.getfield 96, 3) := by decide +kernel
theorem dL_plays_329 : decode cL_plays 329 = .ok (.dup_x1, 1) := by decide +kernel
theorem dL_plays_330 : decode cL_plays 330 = .ok (.iconst 1, 1) := by decide +kernel
theorem dL_plays_331 : decode cL_plays 331 = .ok (.iadd, 1) := by decide +kernel
theorem dL_plays_332 : decode cL_plays 332 = .ok (.putfield 96, 3) := by decide +kernel
theorem dL_plays_335 : decode cL_plays 335 = .ok (.aload_n 2, 1) := by decide +kernel
theorem dL_plays_336 : decode cL_plays 336 = .ok (.getfield 99, 3) := by decide +kernel
theorem dL_plays_339 : decode cL_plays 339 = .ok (.iastore, 1) := by decide +kernel
theorem dL_plays_340 : decode cL_plays 340 = .ok (.aload_n 3, 1) := by decide +kernel
theorem dL_plays_341 : decode cL_plays 341 = .ok (.ldc 102, 2) := by decide +kernel
theorem dL_plays_343 : decode cL_plays 343 = .ok (.invokevirtual 54, 3) := by decide +kernel
theorem dL_plays_346 : decode cL_plays 346 = .ok (.pop, 1) := by decide +kernel
theorem dL_plays_347 : decode cL_plays 347 = .ok (.iinc 4 (-1), 3) := by decide +kernel
theorem dL_plays_350 : decode cL_plays 350 = .ok (.goto (-182), 3) := by decide +kernel
theorem dL_plays_353 : decode cL_plays 353 = .ok (.aload_n 0, 1) := by decide +kernel
theorem dL_plays_354 : decode cL_plays 354 = .ok (.aload_n 3, 1) := by decide +kernel
theorem dL_plays_355 : decode cL_plays 355 = .ok (.invokevirtual 64, 3) := by decide +kernel
theorem dL_plays_358 : decode cL_plays 358 = .ok (.invokestatic 104, 3) := by decide +kernel
theorem dL_plays_361 : decode cL_plays 361 = .ok (.ifCond .eq 14, 3) := by decide +kernel
theorem dL_plays_364 : decode cL_plays 364 = .ok (.aload_n 0, 1) := by decide +kernel
theorem dL_plays_365 : decode cL_plays 365 = .ok (.aload_n 3, 1) := by decide +kernel
theorem dL_plays_366 : decode cL_plays 366 = .ok (.invokevirtual 108, 3) := by decide +kernel
theorem dL_plays_369 : decode cL_plays 369 = .ok (.invokevirtual 109, 3) := by decide +kernel
theorem dL_plays_372 : decode cL_plays 372 = .ok (.ifCond .eq 5, 3) := by decide +kernel
theorem dL_plays_375 : decode cL_plays 375 = .ok (.iconst 0, 1) := by decide +kernel
theorem dL_plays_376 : decode cL_plays 376 = .ok (.ireturn, 1) := by decide +kernel
theorem dL_plays_377 : decode cL_plays 377 = .ok (.iconst 0, 1) := by decide +kernel
theorem dL_plays_378 : decode cL_plays 378 = .ok (.istore 4, 2) := by decide +kernel
theorem dL_plays_380 : decode cL_plays 380 = .ok (.iload 4, 2) := by decide +kernel
theorem dL_plays_382 : decode cL_plays 382 = .ok (.bipush 26, 2) := by decide +kernel
theorem dL_plays_384 : decode cL_plays 384 = .ok (.if_icmp .ge 37, 3) := by decide +kernel
theorem dL_plays_387 : decode cL_plays 387 = .ok (.aload_n 0, 1) := by decide +kernel
theorem dL_plays_388 : decode cL_plays 388 = .ok (.aload_n 2, 1) := by decide +kernel
theorem dL_plays_389 : decode cL_plays 389 = .ok (.aload_n 1, 1) := by decide +kernel
theorem dL_plays_390 : decode cL_plays 390 = .ok (.invokestatic 113, 3) := by decide +kernel
theorem dL_plays_393 : decode cL_plays 393 = .ok (.ifCond .eq 20, 3) := by decide +kernel
theorem dL_plays_396 : decode cL_plays 396 = .ok (.aload_n 0, 1) := by decide +kernel
theorem dL_plays_397 : decode cL_plays 397 = .ok (.aload_n 2, 1) := by decide +kernel
theorem dL_plays_398 : decode cL_plays 398 = .ok (.invokestatic 117, 3) := by decide +kernel
theorem dL_plays_401 : decode cL_plays 401 = .ok (.ifCond .eq 12, 3) := by decide +kernel
theorem dL_plays_404 : decode cL_plays 404 = .ok (.aload_n 0, 1) := by decide +kernel
theorem dL_plays_405 : decode cL_plays 405 = .ok (.aload_n 2, 1) := by decide +kernel
theorem dL_plays_406 : decode cL_plays 406 = .ok (.aload_n 1, 1) := by decide +kernel
theorem dL_plays_407 : decode cL_plays 407 = .ok (.invokestatic 121, 3) := by decide +kernel
theorem dL_plays_410 : decode cL_plays 410 = .ok (.ifCond .ne 5, 3) := by decide +kernel
theorem dL_plays_413 : decode cL_plays 413 = .ok (.iconst 0, 1) := by decide +kernel
theorem dL_plays_414 : decode cL_plays 414 = .ok (.ireturn, 1) := by decide +kernel
theorem dL_plays_415 : decode cL_plays 415 = .ok (.iinc 4 1, 3) := by decide +kernel
theorem dL_plays_418 : decode cL_plays 418 = .ok (.goto (-38), 3) := by decide +kernel
theorem dL_plays_421 : decode cL_plays 421 = .ok (.iconst 1, 1) := by decide +kernel
theorem dL_plays_422 : decode cL_plays 422 = .ok (.ireturn, 1) := by decide +kernel
