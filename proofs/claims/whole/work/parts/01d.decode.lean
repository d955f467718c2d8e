theorem dX10_init_0 : decode cX10_init 0 = .ok (.aload_n 0, 1) := by decide +kernel
theorem dX10_init_1 : decode cX10_init 1 = .ok (.invokespecial 1, 3) := by decide +kernel
theorem dX10_init_4 : decode cX10_init 4 = .ok (.aload_n 0, 1) := by decide +kernel
theorem dX10_init_5 : decode cX10_init 5 = .ok (.sipush 1952, 3) := by decide +kernel
theorem dX10_init_8 : decode cX10_init 8 = .ok (.newarray .int, 2) := by decide +kernel
theorem dX10_init_10 : decode cX10_init 10 = .ok (.putfield 7, 3) := by decide +kernel
theorem dX10_init_13 : decode cX10_init 13 = .ok (.aload_n 0, 1) := by decide +kernel
theorem dX10_init_14 : decode cX10_init 14 = .ok (.iconst 5, 1) := by decide +kernel
theorem dX10_init_15 : decode cX10_init 15 = .ok (.newarray .long, 2) := by decide +kernel
theorem dX10_init_17 : decode cX10_init 17 = .ok (.putfield 13, 3) := by decide +kernel
theorem dX10_init_20 : decode cX10_init 20 = .ok (.aload_n 0, 1) := by decide +kernel
theorem dX10_init_21 : decode cX10_init 21 = .ok (.sipush 600, 3) := by decide +kernel
theorem dX10_init_24 : decode cX10_init 24 = .ok (.newarray .byte, 2) := by decide +kernel
theorem dX10_init_26 : decode cX10_init 26 = .ok (.putfield 17, 3) := by decide +kernel
theorem dX10_init_29 : decode cX10_init 29 = .ok (.aload_n 0, 1) := by decide +kernel
theorem dX10_init_30 : decode cX10_init 30 = .ok (.iconst (-1), 1) := by decide +kernel
theorem dX10_init_31 : decode cX10_init 31 = .ok (.putfield 21, 3) := by decide +kernel
theorem dX10_init_34 : decode cX10_init 34 = .ok (.aload_n 0, 1) := by decide +kernel
theorem dX10_init_35 : decode cX10_init 35 = .ok (.sipush 1952, 3) := by decide +kernel
theorem dX10_init_38 : decode cX10_init 38 = .ok (.newarray .int, 2) := by decide +kernel
theorem dX10_init_40 : decode cX10_init 40 = .ok (.putfield 25, 3) := by decide +kernel
theorem dX10_init_43 : decode cX10_init 43 = .ok (.aload_n 0, 1) := by decide +kernel
theorem dX10_init_44 : decode cX10_init 44 = .ok (.iconst 5, 1) := by decide +kernel
theorem dX10_init_45 : decode cX10_init 45 = .ok (.newarray .long, 2) := by decide +kernel
theorem dX10_init_47 : decode cX10_init 47 = .ok (.putfield 28, 3) := by decide +kernel
theorem dX10_init_50 : decode cX10_init 50 = .ok (.aload_n 0, 1) := by decide +kernel
theorem dX10_init_51 : decode cX10_init 51 = .ok (.bipush 6, 2) := by decide +kernel
theorem dX10_init_53 : decode cX10_init 53 = .ok (.newarray .int, 2) := by decide +kernel
theorem dX10_init_55 : decode cX10_init 55 = .ok (.putfield 31, 3) := by decide +kernel
theorem dX10_init_58 : decode cX10_init 58 = .ok (.aload_n 0, 1) := by decide +kernel
theorem dX10_init_59 : decode cX10_init 59 = .ok (.sipush 19520, 3) := by decide +kernel
theorem dX10_init_62 : decode cX10_init 62 = .ok (.newarray .int, 2) := by decide +kernel
theorem dX10_init_64 : decode cX10_init 64 = .ok (.putfield 34, 3) := by decide +kernel
theorem dX10_init_67 : decode cX10_init 67 = .ok (.aload_n 0, 1) := by decide +kernel
theorem dX10_init_68 : decode cX10_init 68 = .ok (.sipush 3904, 3) := by decide +kernel
theorem dX10_init_71 : decode cX10_init 71 = .ok (.newarray .int, 2) := by decide +kernel
theorem dX10_init_73 : decode cX10_init 73 = .ok (.putfield 37, 3) := by decide +kernel
theorem dX10_init_76 : decode cX10_init 76 = .ok (.aload_n 0, 1) := by decide +kernel
theorem dX10_init_77 : decode cX10_init 77 = .ok (.iconst 2, 1) := by decide +kernel
theorem dX10_init_78 : decode cX10_init 78 = .ok (.newarray .boolean, 2) := by decide +kernel
theorem dX10_init_80 : decode cX10_init 80 = .ok (.putfield 40, 3) := by decide +kernel
theorem dX10_init_83 : decode cX10_init 83 = .ok (.aload_n 0, 1) := by decide +kernel
theorem dX10_init_84 : decode cX10_init 84 = .ok (.getfield 7, 3) := by decide +kernel
theorem dX10_init_87 : decode cX10_init 87 = .ok (.iconst 1, 1) := by decide +kernel
theorem dX10_init_88 : decode cX10_init 88 = .ok (.iconst 1, 1) := by decide +kernel
theorem dX10_init_89 : decode cX10_init 89 = .ok (.iastore, 1) := by decide +kernel
theorem dX10_init_90 : decode cX10_init 90 = .ok (.aload_n 0, 1) := by decide +kernel
theorem dX10_init_91 : decode cX10_init 91 = .ok (.getfield 7, 3) := by decide +kernel
theorem dX10_init_94 : decode cX10_init 94 = .ok (.iconst 2, 1) := by decide +kernel
theorem dX10_init_95 : decode cX10_init 95 = .ok (.iconst 1, 1) := by decide +kernel
theorem dX10_init_96 : decode cX10_init 96 = .ok (.iastore, 1) := by decide +kernel
theorem dX10_init_97 : decode cX10_init 97 = .ok (.return_, 1) := by decide +kernel
theorem dX10_thrown_0 : decode cX10_thrown 0 = .ok (.aload_n 0, 1) := by decide +kernel
theorem dX10_thrown_1 : decode cX10_thrown 1 = .ok (.getfield 44, 3) := by decide +kernel
theorem dX10_thrown_4 : decode cX10_thrown 4 = .ok (.ireturn, 1) := by decide +kernel
theorem dX10_within_0 : decode cX10_within 0 = .ok (.iload_n 0, 1) := by decide +kernel
theorem dX10_within_1 : decode cX10_within 1 = .ok (.iload_n 1, 1) := by decide +kernel
theorem dX10_within_2 : decode cX10_within 2 = .ok (.if_icmp .lt 12, 3) := by decide +kernel
theorem dX10_within_5 : decode cX10_within 5 = .ok (.iload_n 0, 1) := by decide +kernel
theorem dX10_within_6 : decode cX10_within 6 = .ok (.iload_n 2, 1) := by decide +kernel
theorem dX10_within_7 : decode cX10_within 7 = .ok (.if_icmp .gt 7, 3) := by decide +kernel
theorem dX10_within_10 : decode cX10_within 10 = .ok (.iconst 1, 1) := by decide +kernel
theorem dX10_within_11 : decode cX10_within 11 = .ok (.goto 4, 3) := by decide +kernel
theorem dX10_within_14 : decode cX10_within 14 = .ok (.iconst 0, 1) := by decide +kernel
theorem dX10_within_15 : decode cX10_within 15 = .ok (.ireturn, 1) := by decide +kernel
theorem dX10_throwsIf_0 : decode cX10_throwsIf 0 = .ok (.aload_n 0, 1) := by decide +kernel
theorem dX10_throwsIf_1 : decode cX10_throwsIf 1 = .ok (.getfield 44, 3) := by decide +kernel
theorem dX10_throwsIf_4 : decode cX10_throwsIf 4 = .ok (.ifCond .ne 12, 3) := by decide +kernel
theorem dX10_throwsIf_7 : decode cX10_throwsIf 7 = .ok (.iload_n 1, 1) := by decide +kernel
theorem dX10_throwsIf_8 : decode cX10_throwsIf 8 = .ok (.ifCond .eq 8, 3) := by decide +kernel
theorem dX10_throwsIf_11 : decode cX10_throwsIf 11 = .ok (.aload_n 0, 1) := by decide +kernel
theorem dX10_throwsIf_12 : decode cX10_throwsIf 12 = .ok (.iload_n 2, 1) := by decide +kernel
theorem dX10_throwsIf_13 : decode cX10_throwsIf 13 = .ok (.putfield 44, 3) := by decide +kernel
theorem dX10_throwsIf_16 : decode cX10_throwsIf 16 = .ok (.aload_n 0, 1) := by decide +kernel
theorem dX10_throwsIf_17 : decode cX10_throwsIf 17 = .ok (.getfield 44, 3) := by decide +kernel
theorem dX10_throwsIf_20 : decode cX10_throwsIf 20 = .ok (.ifCond .le 7, 3) := by decide +kernel
theorem dX10_throwsIf_23 : decode cX10_throwsIf 23 = .ok (.iconst 1, 1) := by decide +kernel
theorem dX10_throwsIf_24 : decode cX10_throwsIf 24 = .ok (.goto 4, 3) := by decide +kernel
theorem dX10_throwsIf_27 : decode cX10_throwsIf 27 = .ok (.iconst 0, 1) := by decide +kernel
theorem dX10_throwsIf_28 : decode cX10_throwsIf 28 = .ok (.ireturn, 1) := by decide +kernel
theorem dX10_bytesOf_0 : decode cX10_bytesOf 0 = .ok (.bipush 24, 2) := by decide +kernel
theorem dX10_bytesOf_2 : decode cX10_bytesOf 2 = .ok (.istore_n 2, 1) := by decide +kernel
theorem dX10_bytesOf_3 : decode cX10_bytesOf 3 = .ok (.iload_n 2, 1) := by decide +kernel
theorem dX10_bytesOf_4 : decode cX10_bytesOf 4 = .ok (.ifCond .lt 32, 3) := by decide +kernel
theorem dX10_bytesOf_7 : decode cX10_bytesOf 7 = .ok (.aload_n 0, 1) := by decide +kernel
theorem dX10_bytesOf_8 : decode cX10_bytesOf 8 = .ok (.getfield 17, 3) := by decide +kernel
theorem dX10_bytesOf_11 : decode cX10_bytesOf 11 = .ok (.aload_n 0, 1) := by decide +kernel
theorem dX10_bytesOf_12 : decode cX10_bytesOf 12 = .ok (.getfield 47, 3) := by decide +kernel
theorem dX10_bytesOf_15 : decode cX10_bytesOf 15 = .ok (.iload_n 1, 1) := by decide +kernel
theorem dX10_bytesOf_16 : decode cX10_bytesOf 16 = .ok (.iload_n 2, 1) := by decide +kernel
theorem dX10_bytesOf_17 : decode cX10_bytesOf 17 = .ok (.ishr, 1) := by decide +kernel
theorem dX10_bytesOf_18 : decode cX10_bytesOf 18 = .ok (.i2b, 1) := by decide +kernel
theorem dX10_bytesOf_19 : decode cX10_bytesOf 19 = .ok (.bastore, 1) := by decide +kernel
theorem dX10_bytesOf_20 : decode cX10_bytesOf 20 = .ok (.aload_n 0, 1) := by decide +kernel
theorem dX10_bytesOf_21 : decode cX10_bytesOf 21 = .ok (.dup, 1) := by decide +kernel
theorem dX10_bytesOf_22 : decode cX10_bytesOf 22 = .ok (.getfield 47, 3) := by decide +kernel
theorem dX10_bytesOf_25 : decode cX10_bytesOf 25 = .ok (.iconst 1, 1) := by decide +kernel
theorem dX10_bytesOf_26 : decode cX10_bytesOf 26 = .ok (.iadd, 1) := by decide +kernel
theorem dX10_bytesOf_27 : decode cX10_bytesOf 27 = .ok (.putfield 47, 3) := by decide +kernel
theorem dX10_bytesOf_30 : decode cX10_bytesOf 30 = .ok (.iinc 2 (-8), 3) := by decide +kernel
theorem dX10_bytesOf_33 : decode cX10_bytesOf 33 = .ok (.goto (-30), 3) := by decide +kernel
theorem dX10_bytesOf_36 : decode cX10_bytesOf 36 = .ok (.return_, 1) := by decide +kernel
theorem dX10_append_0 : decode cX10_append 0 = .ok (.aload_n 0, 1) := by decide +kernel
theorem dX10_append_1 : decode cX10_append 1 = .ok (.iconst 0, 1) := by decide +kernel
theorem dX10_append_2 : decode cX10_append 2 = .ok (.putfield 44, 3) := by decide +kernel
theorem dX10_append_5 : decode cX10_append 5 = .ok (.aload_n 0, 1) := by decide +kernel
theorem dX10_append_6 : decode cX10_append 6 = .ok (.getfield 47, 3) := by decide +kernel
theorem dX10_append_9 : decode cX10_append 9 = .ok (.bipush 20, 2) := by decide +kernel
theorem dX10_append_11 : decode cX10_append 11 = .ok (.iadd, 1) := by decide +kernel
theorem dX10_append_12 : decode cX10_append 12 = .ok (.sipush 600, 3) := by decide +kernel
theorem dX10_append_15 : decode cX10_append 15 = .ok (.if_icmp .le 5, 3) := by decide +kernel
theorem dX10_append_18 : decode cX10_append 18 = .ok (.iconst (-1), 1) := by decide +kernel
theorem dX10_append_19 : decode cX10_append 19 = .ok (.ireturn, 1) := by decide +kernel
theorem dX10_append_20 : decode cX10_append 20 = .ok (.aload_n 0, 1) := by decide +kernel
theorem dX10_append_21 : decode cX10_append 21 = .ok (.iload_n 1, 1) := by decide +kernel
theorem dX10_append_22 : decode cX10_append 22 = .ok (.invokevirtual 50, 3) := by decide +kernel
theorem dX10_append_25 : decode cX10_append 25 = .ok (.aload_n 0, 1) := by decide +kernel
theorem dX10_append_26 : decode cX10_append 26 = .ok (.iload_n 2, 1) := by decide +kernel
theorem dX10_append_27 : decode cX10_append 27 = .ok (.invokevirtual 50, 3) := by decide +kernel
theorem dX10_append_30 : decode cX10_append 30 = .ok (.aload_n 0, 1) := by decide +kernel
theorem dX10_append_31 : decode cX10_append 31 = .ok (.iload_n 3, 1) := by decide +kernel
theorem dX10_append_32 : decode cX10_append 32 = .ok (.invokevirtual 50, 3) := by decide +kernel
theorem dX10_append_35 : decode cX10_append 35 = .ok (.aload_n 0, 1) := by decide +kernel
theorem dX10_append_36 : decode cX10_append 36 = .ok (.iload 4, 2) := by decide +kernel
theorem dX10_append_38 : decode cX10_append 38 = .ok (.invokevirtual 50, 3) := by decide +kernel
theorem dX10_append_41 : decode cX10_append 41 = .ok (.aload_n 0, 1) := by decide +kernel
theorem dX10_append_42 : decode cX10_append 42 = .ok (.iload 5, 2) := by decide +kernel
theorem dX10_append_44 : decode cX10_append 44 = .ok (.invokevirtual 50, 3) := by decide +kernel
theorem dX10_append_47 : decode cX10_append 47 = .ok (.aload_n 0, 1) := by decide +kernel
theorem dX10_append_48 : decode cX10_append 48 = .ok (.getfield 47, 3) := by decide +kernel
theorem dX10_append_51 : decode cX10_append 51 = .ok (.ireturn, 1) := by decide +kernel
theorem dX10_byteAt_0 : decode cX10_byteAt 0 = .ok (.iload_n 1, 1) := by decide +kernel
theorem dX10_byteAt_1 : decode cX10_byteAt 1 = .ok (.aload_n 0, 1) := by decide +kernel
theorem dX10_byteAt_2 : decode cX10_byteAt 2 = .ok (.getfield 54, 3) := by decide +kernel
theorem dX10_byteAt_5 : decode cX10_byteAt 5 = .ok (.if_icmp .ge 16, 3) := by decide +kernel
theorem dX10_byteAt_8 : decode cX10_byteAt 8 = .ok (.aload_n 0, 1) := by decide +kernel
theorem dX10_byteAt_9 : decode cX10_byteAt 9 = .ok (.getfield 17, 3) := by decide +kernel
theorem dX10_byteAt_12 : decode cX10_byteAt 12 = .ok (.iload_n 1, 1) := by decide +kernel
theorem dX10_byteAt_13 : decode cX10_byteAt 13 = .ok (.baload, 1) := by decide +kernel
theorem dX10_byteAt_14 : decode cX10_byteAt 14 = .ok (.sipush 255, 3) := by decide +kernel
theorem dX10_byteAt_17 : decode cX10_byteAt 17 = .ok (.iand, 1) := by decide +kernel
theorem dX10_byteAt_18 : decode cX10_byteAt 18 = .ok (.goto 4, 3) := by decide +kernel
theorem dX10_byteAt_21 : decode cX10_byteAt 21 = .ok (.iconst (-1), 1) := by decide +kernel
theorem dX10_byteAt_22 : decode cX10_byteAt 22 = .ok (.ireturn, 1) := by decide +kernel
theorem dX10_takesLetters_0 : decode cX10_takesLetters 0 = .ok (.aload_n 0, 1) := by decide +kernel
theorem dX10_takesLetters_1 : decode cX10_takesLetters 1 = .ok (.lconst 0, 1) := by decide +kernel
theorem dX10_takesLetters_2 : decode cX10_takesLetters 2 = .ok (.putfield 57, 3) := by decide +kernel
theorem dX10_takesLetters_5 : decode cX10_takesLetters 5 = .ok (.aload_n 0, 1) := by decide +kernel
theorem dX10_takesLetters_6 : decode cX10_takesLetters 6 = .ok (.aload_n 0, 1) := by decide +kernel
theorem dX10_takesLetters_7 : decode cX10_takesLetters 7 = .ok (.getfield 61, 3) := by decide +kernel
theorem dX10_takesLetters_10 : decode cX10_takesLetters 10 = .ok (.invokevirtual 64, 3) := by decide +kernel
theorem dX10_takesLetters_13 : decode cX10_takesLetters 13 = .ok (.bipush 97, 2) := by decide +kernel
theorem dX10_takesLetters_15 : decode cX10_takesLetters 15 = .ok (.bipush 122, 2) := by decide +kernel
theorem dX10_takesLetters_17 : decode cX10_takesLetters 17 = .ok (.invokestatic 68, 3) := by decide +kernel
theorem dX10_takesLetters_20 : decode cX10_takesLetters 20 = .ok (.ifCond .eq 58, 3) := by decide +kernel
theorem dX10_takesLetters_23 : decode cX10_takesLetters 23 = .ok (.aload_n 0, 1) := by decide +kernel
theorem dX10_takesLetters_24 : decode cX10_takesLetters 24 = .ok (.aload_n 0, 1) := by decide +kernel
theorem dX10_takesLetters_25 : decode cX10_takesLetters 25 = .ok (.getfield 61, 3) := by decide +kernel
theorem dX10_takesLetters_28 : decode cX10_takesLetters 28 = .ok (.aload_n 0, 1) := by decide +kernel
theorem dX10_takesLetters_29 : decode cX10_takesLetters 29 = .ok (.getfield 72, 3) := by decide +kernel
theorem dX10_takesLetters_32 : decode cX10_takesLetters 32 = .ok (.isub, 1) := by decide +kernel
theorem dX10_takesLetters_33 : decode cX10_takesLetters 33 = .ok (.bipush 8, 2) := by decide +kernel
theorem dX10_takesLetters_35 : decode cX10_takesLetters 35 = .ok (.if_icmp .ge 23, 3) := by decide +kernel
theorem dX10_takesLetters_38 : decode cX10_takesLetters 38 = .ok (.aload_n 0, 1) := by decide +kernel
theorem dX10_takesLetters_39 : decode cX10_takesLetters 39 = .ok (.getfield 57, 3) := by decide +kernel
theorem dX10_takesLetters_42 : decode cX10_takesLetters 42 = .ok (.bipush 8, 2) := by decide +kernel
theorem dX10_takesLetters_44 : decode cX10_takesLetters 44 = .ok (.lshl, 1) := by decide +kernel
theorem dX10_takesLetters_45 : decode cX10_takesLetters 45 = .ok (.aload_n 0, 1) := by decide +kernel
theorem dX10_takesLetters_46 : decode cX10_takesLetters 46 = .ok (.aload_n 0, 1) := by decide +kernel
theorem dX10_takesLetters_47 : decode cX10_takesLetters 47 = .ok (.getfield 61, 3) := by decide +kernel
theorem dX10_takesLetters_50 : decode cX10_takesLetters 50 = .ok (.invokevirtual 64, 3) := by decide +kernel
theorem dX10_takesLetters_53 : decode cX10_takesLetters 53 = .ok (.i2l, 1) := by decide +kernel
theorem dX10_takesLetters_54 : decode cX10_takesLetters 54 = .ok (.lor, 1) := by decide +kernel
theorem dX10_takesLetters_55 : decode cX10_takesLetters 55 = .ok (.goto 7, 3) := by decide +kernel
theorem dX10_takesLetters_58 : decode cX10_takesLetters 58 = .ok (.aload_n 0, 1) := by decide +kernel
theorem dX10_takesLetters_59 : decode cX10_takesLetters 59 = .ok (.getfield 57, 3) := by decide +kernel
theorem dX10_takesLetters_62 : decode cX10_takesLetters 62 = .ok (.putfield 57, 3) := by decide +kernel
theorem dX10_takesLetters_65 : decode cX10_takesLetters 65 = .ok (.aload_n 0, 1) := by decide +kernel
theorem dX10_takesLetters_66 : decode cX10_takesLetters 66 = .ok (.dup, 1) := by decide +kernel
theorem dX10_takesLetters_67 : decode cX10_takesLetters 67 = .ok (.getfield 61, 3) := by decide +kernel
theorem dX10_takesLetters_70 : decode cX10_takesLetters 70 = .ok (.iconst 1, 1) := by decide +kernel
theorem dX10_takesLetters_71 : decode cX10_takesLetters 71 = .ok (.iadd, 1) := by decide +kernel
theorem dX10_takesLetters_72 : decode cX10_takesLetters 72 = .ok (.putfield 61, 3) := by decide +kernel
theorem dX10_takesLetters_75 : decode cX10_takesLetters 75 = .ok (.goto (-70), 3) := by decide +kernel
theorem dX10_takesLetters_78 : decode cX10_takesLetters 78 = .ok (.return_, 1) := by decide +kernel
theorem dX10_advance_0 : decode cX10_advance 0 = .ok (.aload_n 0, 1) := by decide +kernel
theorem dX10_advance_1 : decode cX10_advance 1 = .ok (.aload_n 0, 1) := by decide +kernel
theorem dX10_advance_2 : decode cX10_advance 2 = .ok (.getfield 61, 3) := by decide +kernel
theorem dX10_advance_5 : decode cX10_advance 5 = .ok (.invokevirtual 64, 3) := by decide +kernel
theorem dX10_advance_8 : decode cX10_advance 8 = .ok (.bipush 32, 2) := by decide +kernel
theorem dX10_advance_10 : decode cX10_advance 10 = .ok (.if_icmp .eq 16, 3) := by decide +kernel
theorem dX10_advance_13 : decode cX10_advance 13 = .ok (.aload_n 0, 1) := by decide +kernel
theorem dX10_advance_14 : decode cX10_advance 14 = .ok (.aload_n 0, 1) := by decide +kernel
theorem dX10_advance_15 : decode cX10_advance 15 = .ok (.getfield 61, 3) := by decide +kernel
theorem dX10_advance_18 : decode cX10_advance 18 = .ok (.invokevirtual 64, 3) := by decide +kernel
theorem dX10_advance_21 : decode cX10_advance 21 = .ok (.bipush 10, 2) := by decide +kernel
theorem dX10_advance_23 : decode cX10_advance 23 = .ok (.if_icmp .ne 16, 3) := by decide +kernel
theorem dX10_advance_26 : decode cX10_advance 26 = .ok (.aload_n 0, 1) := by decide +kernel
theorem dX10_advance_27 : decode cX10_advance 27 = .ok (.dup, 1) := by decide +kernel
theorem dX10_advance_28 : decode cX10_advance 28 = .ok (.getfield 61, 3) := by decide +kernel
theorem dX10_advance_31 : decode cX10_advance 31 = .ok (.iconst 1, 1) := by decide +kernel
theorem dX10_advance_32 : decode cX10_advance 32 = .ok (.iadd, 1) := by decide +kernel
theorem dX10_advance_33 : decode cX10_advance 33 = .ok (.putfield 61, 3) := by decide +kernel
theorem dX10_advance_36 : decode cX10_advance 36 = .ok (.goto (-36), 3) := by decide +kernel
theorem dX10_advance_39 : decode cX10_advance 39 = .ok (.aload_n 0, 1) := by decide +kernel
theorem dX10_advance_40 : decode cX10_advance 40 = .ok (.aload_n 0, 1) := by decide +kernel
theorem dX10_advance_41 : decode cX10_advance 41 = .ok (.getfield 61, 3) := by decide +kernel
theorem dX10_advance_44 : decode cX10_advance 44 = .ok (.putfield 72, 3) := by decide +kernel
theorem dX10_advance_47 : decode cX10_advance 47 = .ok (.aload_n 0, 1) := by decide +kernel
theorem dX10_advance_48 : decode cX10_advance 48 = .ok (.iconst 0, 1) := by decide +kernel
theorem dX10_advance_49 : decode cX10_advance 49 = .ok (.putfield 75, 3) := by decide +kernel
theorem dX10_advance_52 : decode cX10_advance 52 = .ok (.aload_n 0, 1) := by decide +kernel
theorem dX10_advance_53 : decode cX10_advance 53 = .ok (.aload_n 0, 1) := by decide +kernel
theorem dX10_advance_54 : decode cX10_advance 54 = .ok (.getfield 61, 3) := by decide +kernel
theorem dX10_advance_57 : decode cX10_advance 57 = .ok (.invokevirtual 64, 3) := by decide +kernel
theorem dX10_advance_60 : decode cX10_advance 60 = .ok (.istore_n 1, 1) := by decide +kernel
theorem dX10_advance_61 : decode cX10_advance 61 = .ok (.iload_n 1, 1) := by decide +kernel
theorem dX10_advance_62 : decode cX10_advance 62 = .ok (.iconst (-1), 1) := by decide +kernel
theorem dX10_advance_63 : decode cX10_advance 63 = .ok (.if_icmp .ne 11, 3) := by decide +kernel
theorem dX10_advance_66 : decode cX10_advance 66 = .ok (.aload_n 0, 1) := by decide +kernel
theorem dX10_advance_67 : decode cX10_advance 67 = .ok (.iconst 0, 1) := by decide +kernel
theorem dX10_advance_68 : decode cX10_advance 68 = .ok (.putfield 78, 3) := by decide +kernel
theorem dX10_advance_71 : decode cX10_advance 71 = .ok (.goto 179, 3) := by decide +kernel
theorem dX10_advance_74 : decode cX10_advance 74 = .ok (.iload_n 1, 1) := by decide +kernel
theorem dX10_advance_75 : decode cX10_advance 75 = .ok (.bipush 97, 2) := by decide +kernel
theorem dX10_advance_77 : decode cX10_advance 77 = .ok (.bipush 122, 2) := by decide +kernel
theorem dX10_advance_79 : decode cX10_advance 79 = .ok (.invokestatic 68, 3) := by decide +kernel
theorem dX10_advance_82 : decode cX10_advance 82 = .ok (.ifCond .eq 33, 3) := by decide +kernel
theorem dX10_advance_85 : decode cX10_advance 85 = .ok (.aload_n 0, 1) := by decide +kernel
theorem dX10_advance_86 : decode cX10_advance 86 = .ok (.invokevirtual 81, 3) := by decide +kernel
theorem dX10_advance_89 : decode cX10_advance 89 = .ok (.aload_n 0, 1) := by decide +kernel
theorem dX10_advance_90 : decode cX10_advance 90 = .ok (.aload_n 0, 1) := by decide +kernel
theorem dX10_advance_91 : decode cX10_advance 91 = .ok (.getfield 61, 3) := by decide +kernel
theorem dX10_advance_94 : decode cX10_advance 94 = .ok (.aload_n 0, 1) := by decide +kernel
theorem dX10_advance_95 : decode cX10_advance 95 = .ok (.getfield 72, 3) := by decide +kernel
theorem dX10_advance_98 : decode cX10_advance 98 = .ok (.isub, 1) := by decide +kernel
theorem dX10_advance_99 : decode cX10_advance 99 = .ok (.bipush 8, 2) := by decide +kernel
theorem dX10_advance_101 : decode cX10_advance 101 = .ok (.if_icmp .le 7, 3) := by decide +kernel
theorem dX10_advance_104 : decode cX10_advance 104 = .ok (.iconst 4, 1) := by decide +kernel
theorem dX10_advance_105 : decode cX10_advance 105 = .ok (.goto 4, 3) := by decide +kernel
theorem dX10_advance_108 : decode cX10_advance 108 = .ok (.iconst 1, 1) := by decide +kernel
theorem dX10_advance_109 : decode cX10_advance 109 = .ok (.putfield 78, 3) := by decide +kernel
theorem dX10_advance_112 : decode cX10_advance 112 = .ok (.goto 138, 3) := by decide +kernel
theorem dX10_advance_115 : decode cX10_advance 115 = .ok (.iload_n 1, 1) := by decide +kernel
theorem dX10_advance_116 : decode cX10_advance 116 = .ok (.bipush 48, 2) := by decide +kernel
theorem dX10_advance_118 : decode cX10_advance 118 = .ok (.bipush 57, 2) := by decide +kernel
theorem dX10_advance_120 : decode cX10_advance 120 = .ok (.invokestatic 68, 3) := by decide +kernel
theorem dX10_advance_123 : decode cX10_advance 123 = .ok (.ifCond .eq 102, 3) := by decide +kernel
theorem dX10_advance_126 : decode cX10_advance 126 = .ok (.aload_n 0, 1) := by decide +kernel
theorem dX10_advance_127 : decode cX10_advance 127 = .ok (.aload_n 0, 1) := by decide +kernel
theorem dX10_advance_128 : decode cX10_advance 128 = .ok (.getfield 61, 3) := by decide +kernel
theorem dX10_advance_131 : decode cX10_advance 131 = .ok (.invokevirtual 64, 3) := by decide +kernel
theorem dX10_advance_134 : decode cX10_advance 134 = .ok (.bipush 48, 2) := by decide +kernel
theorem dX10_advance_136 : decode cX10_advance 136 = .ok (.bipush 57, 2) := by decide +kernel
theorem dX10_advance_138 : decode cX10_advance 138 = .ok (.invokestatic 68, 3) := by decide +kernel
theorem dX10_advance_141 : decode cX10_advance 141 = .ok (.ifCond .eq 59, 3) := by decide +kernel
theorem dX10_advance_144 : decode cX10_advance 144 = .ok (.aload_n 0, 1) := by decide +kernel
theorem dX10_advance_145 : decode cX10_advance 145 = .ok (.aload_n 0, 1) := by decide +kernel
theorem dX10_advance_146 : decode cX10_advance 146 = .ok (.getfield 61, 3) := by decide +kernel
theorem dX10_advance_149 : decode cX10_advance 149 = .ok (.aload_n 0, 1) := by decide +kernel
theorem dX10_advance_150 : decode cX10_advance 150 = .ok (.getfield 72, 3) := by decide +kernel
theorem dX10_advance_153 : decode cX10_advance 153 = .ok (.isub, 1) := by decide +kernel
theorem dX10_advance_154 : decode cX10_advance 154 = .ok (.iconst 3, 1) := by decide +kernel
theorem dX10_advance_155 : decode cX10_advance 155 = .ok (.if_icmp .ge 25, 3) := by decide +kernel
theorem dX10_advance_158 : decode cX10_advance 158 = .ok (.bipush 10, 2) := by decide +kernel
theorem dX10_advance_160 : decode cX10_advance 160 = .ok (.aload_n 0, 1) := by decide +kernel
theorem dX10_advance_161 : decode cX10_advance 161 = .ok (.getfield 75, 3) := by decide +kernel
theorem dX10_advance_164 : decode cX10_advance 164 = .ok (.imul, 1) := by decide +kernel
theorem dX10_advance_165 : decode cX10_advance 165 = .ok (.aload_n 0, 1) := by decide +kernel
theorem dX10_advance_166 : decode cX10_advance 166 = .ok (.aload_n 0, 1) := by decide +kernel
theorem dX10_advance_167 : decode cX10_advance 167 = .ok (.getfield 61, 3) := by decide +kernel
theorem dX10_advance_170 : decode cX10_advance 170 = .ok (.invokevirtual 64, 3) := by decide +kernel
theorem dX10_advance_173 : decode cX10_advance 173 = .ok (.iadd, 1) := by decide +kernel
theorem dX10_advance_174 : decode cX10_advance 174 = .ok (.bipush 48, 2) := by decide +kernel
theorem dX10_advance_176 : decode cX10_advance 176 = .ok (.isub, 1) := by decide +kernel
theorem dX10_advance_177 : decode cX10_advance 177 = .ok (.goto 7, 3) := by decide +kernel
theorem dX10_advance_180 : decode cX10_advance 180 = .ok (.aload_n 0, 1) := by decide +kernel
theorem dX10_advance_181 : decode cX10_advance 181 = .ok (.getfield 75, 3) := by decide +kernel
theorem dX10_advance_184 : decode cX10_advance 184 = .ok (.putfield 75, 3) := by decide +kernel
theorem dX10_advance_187 : decode cX10_advance 187 = .ok (.aload_n 0, 1) := by decide +kernel
theorem dX10_advance_188 : decode cX10_advance 188 = .ok (.dup, 1) := by decide +kernel
theorem dX10_advance_189 : decode cX10_advance 189 = .ok (.getfield 61, 3) := by decide +kernel
theorem dX10_advance_192 : decode cX10_advance 192 = .ok (.iconst 1, 1) := by decide +kernel
theorem dX10_advance_193 : decode cX10_advance 193 = .ok (.iadd, 1) := by decide +kernel
theorem dX10_advance_194 : decode cX10_advance 194 = .ok (.putfield 61, 3) := by decide +kernel
theorem dX10_advance_197 : decode cX10_advance 197 = .ok (.goto (-71), 3) := by decide +kernel
theorem dX10_advance_200 : decode cX10_advance 200 = .ok (.aload_n 0, 1) := by decide +kernel
theorem dX10_advance_201 : decode cX10_advance 201 = .ok (.aload_n 0, 1) := by decide +kernel
theorem dX10_advance_202 : decode cX10_advance 202 = .ok (.getfield 61, 3) := by decide +kernel
theorem dX10_advance_205 : decode cX10_advance 205 = .ok (.aload_n 0, 1) := by decide +kernel
theorem dX10_advance_206 : decode cX10_advance 206 = .ok (.getfield 72, 3) := by decide +kernel
theorem dX10_advance_209 : decode cX10_advance 209 = .ok (.isub, 1) := by decide +kernel
theorem dX10_advance_210 : decode cX10_advance 210 = .ok (.iconst 3, 1) := by decide +kernel
theorem dX10_advance_211 : decode cX10_advance 211 = .ok (.if_icmp .le 7, 3) := by decide +kernel
theorem dX10_advance_214 : decode cX10_advance 214 = .ok (.iconst 4, 1) := by decide +kernel
theorem dX10_advance_215 : decode cX10_advance 215 = .ok (.goto 4, 3) := by decide +kernel
theorem dX10_advance_218 : decode cX10_advance 218 = .ok (.iconst 2, 1) := by decide +kernel
theorem dX10_advance_219 : decode cX10_advance 219 = .ok (.putfield 78, 3) := by decide +kernel
theorem dX10_advance_222 : decode cX10_advance 222 = .ok (.goto 28, 3) := by decide +kernel
theorem dX10_advance_225 : decode cX10_advance 225 = .ok (.aload_n 0, 1) := by decide +kernel
theorem dX10_advance_226 : decode cX10_advance 226 = .ok (.dup, 1) := by decide +kernel
theorem dX10_advance_227 : decode cX10_advance 227 = .ok (.getfield 61, 3) := by decide +kernel
theorem dX10_advance_230 : decode cX10_advance 230 = .ok (.iconst 1, 1) := by decide +kernel
theorem dX10_advance_231 : decode cX10_advance 231 = .ok (.iadd, 1) := by decide +kernel
theorem dX10_advance_232 : decode cX10_advance 232 = .ok (.putfield 61, 3) := by decide +kernel
theorem dX10_advance_235 : decode cX10_advance 235 = .ok (.aload_n 0, 1) := by decide +kernel
theorem dX10_advance_236 : decode cX10_advance 236 = .ok (.iload_n 1, 1) := by decide +kernel
theorem dX10_advance_237 : decode cX10_advance 237 = .ok (.bipush 59, 2) := by decide +kernel
theorem dX10_advance_239 : decode cX10_advance 239 = .ok (.if_icmp .ne 7, 3) := by decide +kernel
theorem dX10_advance_242 : decode cX10_advance 242 = .ok (.iconst 3, 1) := by decide +kernel
theorem dX10_advance_243 : decode cX10_advance 243 = .ok (.goto 4, 3) := by decide +kernel
theorem dX10_advance_246 : decode cX10_advance 246 = .ok (.iconst 4, 1) := by decide +kernel
theorem dX10_advance_247 : decode cX10_advance 247 = .ok (.putfield 78, 3) := by decide +kernel
theorem dX10_advance_250 : decode cX10_advance 250 = .ok (.return_, 1) := by decide +kernel
theorem dJ0_coder_7d493_0 : decode cJ0_coder_7d493 0 = .ok (.getstatic 38, 3) := by decide +kernel
theorem dJ0_coder_7d493_3 : decode cJ0_coder_7d493 3 = .ok (.ifCond .eq 10, 3) := by decide +kernel
theorem dJ0_coder_7d493_6 : decode cJ0_coder_7d493 6 = .ok (.aload_n 0, 1) := by decide +kernel
theorem dJ0_coder_7d493_7 : decode cJ0_coder_7d493 7 = .ok (.getfield 15, 3) := by decide +kernel
theorem dJ0_coder_7d493_10 : decode cJ0_coder_7d493 10 = .ok (.goto 4, 3) := by decide +kernel
theorem dJ0_coder_7d493_13 : decode cJ0_coder_7d493 13 = .ok (.iconst 1, 1) := by decide +kernel
theorem dJ0_coder_7d493_14 : decode cJ0_coder_7d493 14 = .ok (.ireturn, 1) := by decide +kernel
theorem dJ0_length_8abf5_0 : decode cJ0_length_8abf5 0 = .ok (.aload_n 0, 1) := by decide +kernel
theorem dJ0_length_8abf5_1 : decode cJ0_length_8abf5 1 = .ok (.getfield 9, 3) := by decide +kernel
theorem dJ0_length_8abf5_4 : decode cJ0_length_8abf5 4 = .ok (.arraylength, 1) := by decide +kernel
theorem dJ0_length_8abf5_5 : decode cJ0_length_8abf5 5 = .ok (.aload_n 0, 1) := by decide +kernel
theorem dJ0_length_8abf5_6 : decode cJ0_length_8abf5 6 = .ok (.invokevirtual 335, 3) := by decide +kernel
theorem dJ0_length_8abf5_9 : decode cJ0_length_8abf5 9 = .ok (.ishr, 1) := by decide +kernel
theorem dJ0_length_8abf5_10 : decode cJ0_length_8abf5 10 = .ok (.ireturn, 1) := by decide +kernel
theorem dJ0_isLatin1_aae02_0 : decode cJ0_isLatin1_aae02 0 = .ok (.getstatic 38, 3) := by decide +kernel
theorem dJ0_isLatin1_aae02_3 : decode cJ0_isLatin1_aae02 3 = .ok (.ifCond .eq 14, 3) := by decide +kernel
theorem dJ0_isLatin1_aae02_6 : decode cJ0_isLatin1_aae02 6 = .ok (.aload_n 0, 1) := by decide +kernel
theorem dJ0_isLatin1_aae02_7 : decode cJ0_isLatin1_aae02 7 = .ok (.getfield 15, 3) := by decide +kernel
theorem dJ0_isLatin1_aae02_10 : decode cJ0_isLatin1_aae02 10 = .ok (.ifCond .ne 7, 3) := by decide +kernel
theorem dJ0_isLatin1_aae02_13 : decode cJ0_isLatin1_aae02 13 = .ok (.iconst 1, 1) := by decide +kernel
theorem dJ0_isLatin1_aae02_14 : decode cJ0_isLatin1_aae02 14 = .ok (.goto 4, 3) := by decide +kernel
theorem dJ0_isLatin1_aae02_17 : decode cJ0_isLatin1_aae02 17 = .ok (.iconst 0, 1) := by decide +kernel
theorem dJ0_isLatin1_aae02_18 : decode cJ0_isLatin1_aae02 18 = .ok (.ireturn, 1) := by decide +kernel
theorem dJ3_checkIndex_8e157_0 : decode cJ3_checkIndex_8e157 0 = .ok (.iload_n 0, 1) := by decide +kernel
theorem dJ3_checkIndex_8e157_1 : decode cJ3_checkIndex_8e157 1 = .ok (.ifCond .lt 8, 3) := by decide +kernel
theorem dJ3_checkIndex_8e157_4 : decode cJ3_checkIndex_8e157 4 = .ok (.iload_n 0, 1) := by decide +kernel
theorem dJ3_checkIndex_8e157_5 : decode cJ3_checkIndex_8e157 5 = .ok (.iload_n 1, 1) := by decide +kernel
theorem dJ3_checkIndex_8e157_6 : decode cJ3_checkIndex_8e157 6 = .ok (.if_icmp .lt 10, 3) := by decide +kernel
theorem dJ3_checkIndex_8e157_9 : decode cJ3_checkIndex_8e157 9 = .ok (.aload_n 2, 1) := by decide +kernel
theorem dJ3_checkIndex_8e157_10 : decode cJ3_checkIndex_8e157 10 = .ok (.iload_n 0, 1) := by decide +kernel
theorem dJ3_checkIndex_8e157_11 : decode cJ3_checkIndex_8e157 11 = .ok (.iload_n 1, 1) := by decide +kernel
theorem dJ3_checkIndex_8e157_12 : decode cJ3_checkIndex_8e157 12 = .ok (.invokestatic 95, 3) := by decide +kernel
theorem dJ3_checkIndex_8e157_15 : decode cJ3_checkIndex_8e157 15 = .ok (.athrow, 1) := by decide +kernel
theorem dJ3_checkIndex_8e157_16 : decode cJ3_checkIndex_8e157 16 = .ok (.iload_n 0, 1) := by decide +kernel
theorem dJ3_checkIndex_8e157_17 : decode cJ3_checkIndex_8e157 17 = .ok (.ireturn, 1) := by decide +kernel
theorem dJ0_checkIndex_df160_0 : decode cJ0_checkIndex_df160 0 = .ok (.iload_n 0, 1) := by decide +kernel
theorem dJ0_checkIndex_df160_1 : decode cJ0_checkIndex_df160 1 = .ok (.iload_n 1, 1) := by decide +kernel
theorem dJ0_checkIndex_df160_2 : decode cJ0_checkIndex_df160 2 = .ok (.getstatic 1053, 3) := by decide +kernel
theorem dJ0_checkIndex_df160_5 : decode cJ0_checkIndex_df160 5 = .ok (.invokestatic 1059, 3) := by decide +kernel
theorem dJ0_checkIndex_df160_8 : decode cJ0_checkIndex_df160 8 = .ok (.pop, 1) := by decide +kernel
theorem dJ0_checkIndex_df160_9 : decode cJ0_checkIndex_df160 9 = .ok (.return_, 1) := by decide +kernel
theorem dJ1_charAt_3b067_0 : decode cJ1_charAt_3b067 0 = .ok (.iload_n 1, 1) := by decide +kernel
theorem dJ1_charAt_3b067_1 : decode cJ1_charAt_3b067 1 = .ok (.aload_n 0, 1) := by decide +kernel
theorem dJ1_charAt_3b067_2 : decode cJ1_charAt_3b067 2 = .ok (.arraylength, 1) := by decide +kernel
theorem dJ1_charAt_3b067_3 : decode cJ1_charAt_3b067 3 = .ok (.invokestatic 9, 3) := by decide +kernel
theorem dJ1_charAt_3b067_6 : decode cJ1_charAt_3b067 6 = .ok (.aload_n 0, 1) := by decide +kernel
theorem dJ1_charAt_3b067_7 : decode cJ1_charAt_3b067 7 = .ok (.iload_n 1, 1) := by decide +kernel
theorem dJ1_charAt_3b067_8 : decode cJ1_charAt_3b067 8 = .ok (.baload, 1) := by decide +kernel
theorem dJ1_charAt_3b067_9 : decode cJ1_charAt_3b067 9 = .ok (.sipush 255, 3) := by decide +kernel
theorem dJ1_charAt_3b067_12 : decode cJ1_charAt_3b067 12 = .ok (.iand, 1) := by decide +kernel
theorem dJ1_charAt_3b067_13 : decode cJ1_charAt_3b067 13 = .ok (.i2c, 1) := by decide +kernel
theorem dJ1_charAt_3b067_14 : decode cJ1_charAt_3b067 14 = .ok (.ireturn, 1) := by decide +kernel
theorem dJ0_charAt_5068e_0 : decode cJ0_charAt_5068e 0 = .ok (.aload_n 0, 1) := by decide +kernel
theorem dJ0_charAt_5068e_1 : decode cJ0_charAt_5068e 1 = .ok (.invokevirtual 492, 3) := by decide +kernel
theorem dJ0_charAt_5068e_4 : decode cJ0_charAt_5068e 4 = .ok (.ifCond .eq 12, 3) := by decide +kernel
theorem dJ0_charAt_5068e_7 : decode cJ0_charAt_5068e 7 = .ok (.aload_n 0, 1) := by decide +kernel
theorem dJ0_charAt_5068e_8 : decode cJ0_charAt_5068e 8 = .ok (.getfield 9, 3) := by decide +kernel
theorem dJ0_charAt_5068e_11 : decode cJ0_charAt_5068e 11 = .ok (.iload_n 1, 1) := by decide +kernel
theorem dJ0_charAt_5068e_12 : decode cJ0_charAt_5068e 12 = .ok (.invokestatic 495, 3) := by decide +kernel
theorem dJ0_charAt_5068e_15 : decode cJ0_charAt_5068e 15 = .ok (.ireturn, 1) := by decide +kernel
theorem dJ0_charAt_5068e_16 : decode cJ0_charAt_5068e 16 = .ok (.aload_n 0, 1) := by decide +kernel
theorem dJ0_charAt_5068e_17 : decode cJ0_charAt_5068e 17 = .ok (.getfield 9, 3) := by decide +kernel
theorem dJ0_charAt_5068e_20 : decode cJ0_charAt_5068e 20 = .ok (.iload_n 1, 1) := by decide +kernel
theorem dJ0_charAt_5068e_21 : decode cJ0_charAt_5068e 21 = .ok (.invokestatic 498, 3) := by decide +kernel
theorem dJ0_charAt_5068e_24 : decode cJ0_charAt_5068e 24 = .ok (.ireturn, 1) := by decide +kernel
theorem dX10_isWord_0 : decode cX10_isWord 0 = .ok (.aload_n 0, 1) := by decide +kernel
theorem dX10_isWord_1 : decode cX10_isWord 1 = .ok (.getfield 78, 3) := by decide +kernel
theorem dX10_isWord_4 : decode cX10_isWord 4 = .ok (.iconst 1, 1) := by decide +kernel
theorem dX10_isWord_5 : decode cX10_isWord 5 = .ok (.if_icmp .ne 23, 3) := by decide +kernel
theorem dX10_isWord_8 : decode cX10_isWord 8 = .ok (.aload_n 0, 1) := by decide +kernel
theorem dX10_isWord_9 : decode cX10_isWord 9 = .ok (.getfield 61, 3) := by decide +kernel
theorem dX10_isWord_12 : decode cX10_isWord 12 = .ok (.aload_n 0, 1) := by decide +kernel
theorem dX10_isWord_13 : decode cX10_isWord 13 = .ok (.getfield 72, 3) := by decide +kernel
theorem dX10_isWord_16 : decode cX10_isWord 16 = .ok (.isub, 1) := by decide +kernel
theorem dX10_isWord_17 : decode cX10_isWord 17 = .ok (.aload_n 1, 1) := by decide +kernel
theorem dX10_isWord_18 : decode cX10_isWord 18 = .ok (.invokevirtual 84, 3) := by decide +kernel
theorem dX10_isWord_21 : decode cX10_isWord 21 = .ok (.if_icmp .ne 7, 3) := by decide +kernel
theorem dX10_isWord_24 : decode cX10_isWord 24 = .ok (.iconst 1, 1) := by decide +kernel
theorem dX10_isWord_25 : decode cX10_isWord 25 = .ok (.goto 4, 3) := by decide +kernel
theorem dX10_isWord_28 : decode cX10_isWord 28 = .ok (.iconst 0, 1) := by decide +kernel
theorem dX10_isWord_29 : decode cX10_isWord 29 = .ok (.istore_n 2, 1) := by decide +kernel
theorem dX10_isWord_30 : decode cX10_isWord 30 = .ok (.iconst 0, 1) := by decide +kernel
theorem dX10_isWord_31 : decode cX10_isWord 31 = .ok (.istore_n 3, 1) := by decide +kernel
theorem dX10_isWord_32 : decode cX10_isWord 32 = .ok (.iload_n 3, 1) := by decide +kernel
theorem dX10_isWord_33 : decode cX10_isWord 33 = .ok (.aload_n 1, 1) := by decide +kernel
theorem dX10_isWord_34 : decode cX10_isWord 34 = .ok (.invokevirtual 84, 3) := by decide +kernel
theorem dX10_isWord_37 : decode cX10_isWord 37 = .ok (.if_icmp .ge 38, 3) := by decide +kernel
theorem dX10_isWord_40 : decode cX10_isWord 40 = .ok (.iload_n 2, 1) := by decide +kernel
theorem dX10_isWord_41 : decode cX10_isWord 41 = .ok (.ifCond .eq 34, 3) := by decide +kernel
theorem dX10_isWord_44 : decode cX10_isWord 44 = .ok (.aload_n 0, 1) := by decide +kernel
theorem dX10_isWord_45 : decode cX10_isWord 45 = .ok (.getfield 17, 3) := by decide +kernel
theorem dX10_isWord_48 : decode cX10_isWord 48 = .ok (.aload_n 0, 1) := by decide +kernel
theorem dX10_isWord_49 : decode cX10_isWord 49 = .ok (.getfield 72, 3) := by decide +kernel
theorem dX10_isWord_52 : decode cX10_isWord 52 = .ok (.iload_n 3, 1) := by decide +kernel
theorem dX10_isWord_53 : decode cX10_isWord 53 = .ok (.iadd, 1) := by decide +kernel
theorem dX10_isWord_54 : decode cX10_isWord 54 = .ok (.baload, 1) := by decide +kernel
theorem dX10_isWord_55 : decode cX10_isWord 55 = .ok (.aload_n 1, 1) := by decide +kernel
theorem dX10_isWord_56 : decode cX10_isWord 56 = .ok (.iload_n 3, 1) := by decide +kernel
theorem dX10_isWord_57 : decode cX10_isWord 57 = .ok (.invokevirtual 89, 3) := by decide +kernel
theorem dX10_isWord_60 : decode cX10_isWord 60 = .ok (.if_icmp .ne 7, 3) := by decide +kernel
theorem dX10_isWord_63 : decode cX10_isWord 63 = .ok (.iconst 1, 1) := by decide +kernel
theorem dX10_isWord_64 : decode cX10_isWord 64 = .ok (.goto 4, 3) := by decide +kernel
theorem dX10_isWord_67 : decode cX10_isWord 67 = .ok (.iconst 0, 1) := by decide +kernel
theorem dX10_isWord_68 : decode cX10_isWord 68 = .ok (.istore_n 2, 1) := by decide +kernel
theorem dX10_isWord_69 : decode cX10_isWord 69 = .ok (.iinc 3 1, 3) := by decide +kernel
theorem dX10_isWord_72 : decode cX10_isWord 72 = .ok (.goto (-40), 3) := by decide +kernel
theorem dX10_isWord_75 : decode cX10_isWord 75 = .ok (.iload_n 2, 1) := by decide +kernel
theorem dX10_isWord_76 : decode cX10_isWord 76 = .ok (.ireturn, 1) := by decide +kernel
theorem dX10_fails_0 : decode cX10_fails 0 = .ok (.aload_n 0, 1) := by decide +kernel
theorem dX10_fails_1 : decode cX10_fails 1 = .ok (.getfield 93, 3) := by decide +kernel
theorem dX10_fails_4 : decode cX10_fails 4 = .ok (.ifCond .ne 16, 3) := by decide +kernel
theorem dX10_fails_7 : decode cX10_fails 7 = .ok (.aload_n 0, 1) := by decide +kernel
theorem dX10_fails_8 : decode cX10_fails 8 = .ok (.iload_n 1, 1) := by decide +kernel
theorem dX10_fails_9 : decode cX10_fails 9 = .ok (.putfield 93, 3) := by decide +kernel
theorem dX10_fails_12 : decode cX10_fails 12 = .ok (.aload_n 0, 1) := by decide +kernel
theorem dX10_fails_13 : decode cX10_fails 13 = .ok (.aload_n 0, 1) := by decide +kernel
theorem dX10_fails_14 : decode cX10_fails 14 = .ok (.getfield 72, 3) := by decide +kernel
theorem dX10_fails_17 : decode cX10_fails 17 = .ok (.putfield 21, 3) := by decide +kernel
theorem dX10_fails_20 : decode cX10_fails 20 = .ok (.iconst 0, 1) := by decide +kernel
theorem dX10_fails_21 : decode cX10_fails 21 = .ok (.ireturn, 1) := by decide +kernel
theorem dX10_starts_0 : decode cX10_starts 0 = .ok (.iload_n 2, 1) := by decide +kernel
theorem dX10_starts_1 : decode cX10_starts 1 = .ok (.ifCond .ne 9, 3) := by decide +kernel
theorem dX10_starts_4 : decode cX10_starts 4 = .ok (.aload_n 0, 1) := by decide +kernel
theorem dX10_starts_5 : decode cX10_starts 5 = .ok (.iload_n 1, 1) := by decide +kernel
theorem dX10_starts_6 : decode cX10_starts 6 = .ok (.invokevirtual 96, 3) := by decide +kernel
theorem dX10_starts_9 : decode cX10_starts 9 = .ok (.ireturn, 1) := by decide +kernel
theorem dX10_starts_10 : decode cX10_starts 10 = .ok (.aload_n 0, 1) := by decide +kernel
theorem dX10_starts_11 : decode cX10_starts 11 = .ok (.invokevirtual 100, 3) := by decide +kernel
theorem dX10_starts_14 : decode cX10_starts 14 = .ok (.iconst 1, 1) := by decide +kernel
theorem dX10_starts_15 : decode cX10_starts 15 = .ok (.ireturn, 1) := by decide +kernel
theorem dX10_takes_0 : decode cX10_takes 0 = .ok (.aload_n 0, 1) := by decide +kernel
theorem dX10_takes_1 : decode cX10_takes 1 = .ok (.getfield 78, 3) := by decide +kernel
theorem dX10_takes_4 : decode cX10_takes 4 = .ok (.iconst 2, 1) := by decide +kernel
theorem dX10_takes_5 : decode cX10_takes 5 = .ok (.if_icmp .eq 9, 3) := by decide +kernel
theorem dX10_takes_8 : decode cX10_takes 8 = .ok (.aload_n 0, 1) := by decide +kernel
theorem dX10_takes_9 : decode cX10_takes 9 = .ok (.iconst 1, 1) := by decide +kernel
theorem dX10_takes_10 : decode cX10_takes 10 = .ok (.invokevirtual 96, 3) := by decide +kernel
theorem dX10_takes_13 : decode cX10_takes 13 = .ok (.ireturn, 1) := by decide +kernel
theorem dX10_takes_14 : decode cX10_takes 14 = .ok (.aload_n 0, 1) := by decide +kernel
theorem dX10_takes_15 : decode cX10_takes 15 = .ok (.getfield 75, 3) := by decide +kernel
theorem dX10_takes_18 : decode cX10_takes 18 = .ok (.iload_n 1, 1) := by decide +kernel
theorem dX10_takes_19 : decode cX10_takes 19 = .ok (.iload_n 2, 1) := by decide +kernel
theorem dX10_takes_20 : decode cX10_takes 20 = .ok (.invokestatic 68, 3) := by decide +kernel
theorem dX10_takes_23 : decode cX10_takes 23 = .ok (.ifCond .ne 9, 3) := by decide +kernel
theorem dX10_takes_26 : decode cX10_takes 26 = .ok (.aload_n 0, 1) := by decide +kernel
theorem dX10_takes_27 : decode cX10_takes 27 = .ok (.iconst 3, 1) := by decide +kernel
theorem dX10_takes_28 : decode cX10_takes 28 = .ok (.invokevirtual 96, 3) := by decide +kernel
theorem dX10_takes_31 : decode cX10_takes 31 = .ok (.ireturn, 1) := by decide +kernel
theorem dX10_takes_32 : decode cX10_takes 32 = .ok (.aload_n 0, 1) := by decide +kernel
theorem dX10_takes_33 : decode cX10_takes 33 = .ok (.aload_n 0, 1) := by decide +kernel
theorem dX10_takes_34 : decode cX10_takes 34 = .ok (.getfield 75, 3) := by decide +kernel
theorem dX10_takes_37 : decode cX10_takes 37 = .ok (.putfield 103, 3) := by decide +kernel
theorem dX10_takes_40 : decode cX10_takes 40 = .ok (.aload_n 0, 1) := by decide +kernel
theorem dX10_takes_41 : decode cX10_takes 41 = .ok (.invokevirtual 100, 3) := by decide +kernel
theorem dX10_takes_44 : decode cX10_takes 44 = .ok (.iconst 1, 1) := by decide +kernel
theorem dX10_takes_45 : decode cX10_takes 45 = .ok (.ireturn, 1) := by decide +kernel
theorem dX10_lays_0 : decode cX10_lays 0 = .ok (.aload_n 0, 1) := by decide +kernel
theorem dX10_lays_1 : decode cX10_lays 1 = .ok (.iload_n 2, 1) := by decide +kernel
theorem dX10_lays_2 : decode cX10_lays 2 = .ok (.iload_n 3, 1) := by decide +kernel
theorem dX10_lays_3 : decode cX10_lays 3 = .ok (.invokevirtual 106, 3) := by decide +kernel
theorem dX10_lays_6 : decode cX10_lays 6 = .ok (.ifCond .ne 5, 3) := by decide +kernel
theorem dX10_lays_9 : decode cX10_lays 9 = .ok (.iconst 0, 1) := by decide +kernel
theorem dX10_lays_10 : decode cX10_lays 10 = .ok (.ireturn, 1) := by decide +kernel
theorem dX10_lays_11 : decode cX10_lays 11 = .ok (.aload_n 0, 1) := by decide +kernel
theorem dX10_lays_12 : decode cX10_lays 12 = .ok (.getfield 7, 3) := by decide +kernel
theorem dX10_lays_15 : decode cX10_lays 15 = .ok (.iload_n 1, 1) := by decide +kernel
theorem dX10_lays_16 : decode cX10_lays 16 = .ok (.aload_n 0, 1) := by decide +kernel
theorem dX10_lays_17 : decode cX10_lays 17 = .ok (.getfield 103, 3) := by decide +kernel
theorem dX10_lays_20 : decode cX10_lays 20 = .ok (.iastore, 1) := by decide +kernel
theorem dX10_lays_21 : decode cX10_lays 21 = .ok (.iconst 1, 1) := by decide +kernel
theorem dX10_lays_22 : decode cX10_lays 22 = .ok (.ireturn, 1) := by decide +kernel
theorem dX10_closes_0 : decode cX10_closes 0 = .ok (.aload_n 0, 1) := by decide +kernel
theorem dX10_closes_1 : decode cX10_closes 1 = .ok (.iconst 1, 1) := by decide +kernel
theorem dX10_closes_2 : decode cX10_closes 2 = .ok (.aload_n 0, 1) := by decide +kernel
theorem dX10_closes_3 : decode cX10_closes 3 = .ok (.getfield 78, 3) := by decide +kernel
theorem dX10_closes_6 : decode cX10_closes 6 = .ok (.iconst 3, 1) := by decide +kernel
theorem dX10_closes_7 : decode cX10_closes 7 = .ok (.if_icmp .ne 7, 3) := by decide +kernel
theorem dX10_closes_10 : decode cX10_closes 10 = .ok (.iconst 1, 1) := by decide +kernel
theorem dX10_closes_11 : decode cX10_closes 11 = .ok (.goto 4, 3) := by decide +kernel
theorem dX10_closes_14 : decode cX10_closes 14 = .ok (.iconst 0, 1) := by decide +kernel
theorem dX10_closes_15 : decode cX10_closes 15 = .ok (.invokevirtual 110, 3) := by decide +kernel
theorem dX10_closes_18 : decode cX10_closes 18 = .ok (.ireturn, 1) := by decide +kernel
theorem dX10_named_0 : decode cX10_named 0 = .ok (.iconst 0, 1) := by decide +kernel
theorem dX10_named_1 : decode cX10_named 1 = .ok (.istore 4, 2) := by decide +kernel
theorem dX10_named_3 : decode cX10_named 3 = .ok (.iload 4, 2) := by decide +kernel
theorem dX10_named_5 : decode cX10_named 5 = .ok (.iload_n 1, 1) := by decide +kernel
theorem dX10_named_6 : decode cX10_named 6 = .ok (.if_icmp .ge 21, 3) := by decide +kernel
theorem dX10_named_9 : decode cX10_named 9 = .ok (.aload_n 0, 1) := by decide +kernel
theorem dX10_named_10 : decode cX10_named 10 = .ok (.iload 4, 2) := by decide +kernel
theorem dX10_named_12 : decode cX10_named 12 = .ok (.laload, 1) := by decide +kernel
theorem dX10_named_13 : decode cX10_named 13 = .ok (.lload_n 2, 1) := by decide +kernel
theorem dX10_named_14 : decode cX10_named 14 = .ok (.lcmp, 1) := by decide +kernel
theorem dX10_named_15 : decode cX10_named 15 = .ok (.ifCond .ne 6, 3) := by decide +kernel
theorem dX10_named_18 : decode cX10_named 18 = .ok (.iload 4, 2) := by decide +kernel
theorem dX10_named_20 : decode cX10_named 20 = .ok (.ireturn, 1) := by decide +kernel
theorem dX10_named_21 : decode cX10_named 21 = .ok (.iinc 4 1, 3) := by decide +kernel
theorem dX10_named_24 : decode cX10_named 24 = .ok (.goto (-21), 3) := by decide +kernel
theorem dX10_named_27 : decode cX10_named 27 = .ok (.iconst (-1), 1) := by decide +kernel
theorem dX10_named_28 : decode cX10_named 28 = .ok (.ireturn, 1) := by decide +kernel
theorem dX10_setLine_0 : decode cX10_setLine 0 = .ok (.aload_n 0, 1) := by decide +kernel
theorem dX10_setLine_1 : decode cX10_setLine 1 = .ok (.getfield 7, 3) := by decide +kernel
theorem dX10_setLine_4 : decode cX10_setLine 4 = .ok (.iconst 0, 1) := by decide +kernel
theorem dX10_setLine_5 : decode cX10_setLine 5 = .ok (.iaload, 1) := by decide +kernel
theorem dX10_setLine_6 : decode cX10_setLine 6 = .ok (.istore_n 1, 1) := by decide +kernel
theorem dX10_setLine_7 : decode cX10_setLine 7 = .ok (.aload_n 0, 1) := by decide +kernel
theorem dX10_setLine_8 : decode cX10_setLine 8 = .ok (.iconst 5, 1) := by decide +kernel
theorem dX10_setLine_9 : decode cX10_setLine 9 = .ok (.iload_n 1, 1) := by decide +kernel
theorem dX10_setLine_10 : decode cX10_setLine 10 = .ok (.iconst 5, 1) := by decide +kernel
theorem dX10_setLine_11 : decode cX10_setLine 11 = .ok (.if_icmp .ge 7, 3) := by decide +kernel
theorem dX10_setLine_14 : decode cX10_setLine 14 = .ok (.iconst 1, 1) := by decide +kernel
theorem dX10_setLine_15 : decode cX10_setLine 15 = .ok (.goto 4, 3) := by decide +kernel
theorem dX10_setLine_18 : decode cX10_setLine 18 = .ok (.iconst 0, 1) := by decide +kernel
theorem dX10_setLine_19 : decode cX10_setLine 19 = .ok (.invokevirtual 110, 3) := by decide +kernel
theorem dX10_setLine_22 : decode cX10_setLine 22 = .ok (.ifCond .ne 5, 3) := by decide +kernel
theorem dX10_setLine_25 : decode cX10_setLine 25 = .ok (.iconst 0, 1) := by decide +kernel
theorem dX10_setLine_26 : decode cX10_setLine 26 = .ok (.ireturn, 1) := by decide +kernel
theorem dX10_setLine_27 : decode cX10_setLine 27 = .ok (.aload_n 0, 1) := by decide +kernel
theorem dX10_setLine_28 : decode cX10_setLine 28 = .ok (.getfield 78, 3) := by decide +kernel
theorem dX10_setLine_31 : decode cX10_setLine 31 = .ok (.iconst 1, 1) := by decide +kernel
theorem dX10_setLine_32 : decode cX10_setLine 32 = .ok (.if_icmp .eq 9, 3) := by decide +kernel
theorem dX10_setLine_35 : decode cX10_setLine 35 = .ok (.aload_n 0, 1) := by decide +kernel
theorem dX10_setLine_36 : decode cX10_setLine 36 = .ok (.iconst 1, 1) := by decide +kernel
theorem dX10_setLine_37 : decode cX10_setLine 37 = .ok (.invokevirtual 96, 3) := by decide +kernel
theorem dX10_setLine_40 : decode cX10_setLine 40 = .ok (.ireturn, 1) := by decide +kernel
theorem dX10_setLine_41 : decode cX10_setLine 41 = .ok (.aload_n 0, 1) := by decide +kernel
theorem dX10_setLine_42 : decode cX10_setLine 42 = .ok (.getfield 57, 3) := by decide +kernel
theorem dX10_setLine_45 : decode cX10_setLine 45 = .ok (.lstore_n 2, 1) := by decide +kernel
theorem dX10_setLine_46 : decode cX10_setLine 46 = .ok (.aload_n 0, 1) := by decide +kernel
theorem dX10_setLine_47 : decode cX10_setLine 47 = .ok (.iconst 2, 1) := by decide +kernel
theorem dX10_setLine_48 : decode cX10_setLine 48 = .ok (.aload_n 0, 1) := by decide +kernel
theorem dX10_setLine_49 : decode cX10_setLine 49 = .ok (.getfield 28, 3) := by decide +kernel
theorem dX10_setLine_52 : decode cX10_setLine 52 = .ok (.iload_n 1, 1) := by decide +kernel
theorem dX10_setLine_53 : decode cX10_setLine 53 = .ok (.lload_n 2, 1) := by decide +kernel
theorem dX10_setLine_54 : decode cX10_setLine 54 = .ok (.invokestatic 114, 3) := by decide +kernel
theorem dX10_setLine_57 : decode cX10_setLine 57 = .ok (.iconst (-1), 1) := by decide +kernel
theorem dX10_setLine_58 : decode cX10_setLine 58 = .ok (.if_icmp .ne 7, 3) := by decide +kernel
theorem dX10_setLine_61 : decode cX10_setLine 61 = .ok (.iconst 1, 1) := by decide +kernel
theorem dX10_setLine_62 : decode cX10_setLine 62 = .ok (.goto 4, 3) := by decide +kernel
theorem dX10_setLine_65 : decode cX10_setLine 65 = .ok (.iconst 0, 1) := by decide +kernel
theorem dX10_setLine_66 : decode cX10_setLine 66 = .ok (.invokevirtual 110, 3) := by decide +kernel
theorem dX10_setLine_69 : decode cX10_setLine 69 = .ok (.ifCond .ne 5, 3) := by decide +kernel
theorem dX10_setLine_72 : decode cX10_setLine 72 = .ok (.iconst 0, 1) := by decide +kernel
theorem dX10_setLine_73 : decode cX10_setLine 73 = .ok (.ireturn, 1) := by decide +kernel
theorem dX10_setLine_74 : decode cX10_setLine 74 = .ok (.aload_n 0, 1) := by decide +kernel
theorem dX10_setLine_75 : decode cX10_setLine 75 = .ok (.getfield 28, 3) := by decide +kernel
theorem dX10_setLine_78 : decode cX10_setLine 78 = .ok (.iload_n 1, 1) := by decide +kernel
theorem dX10_setLine_79 : decode cX10_setLine 79 = .ok (.lload_n 2, 1) := by decide +kernel
theorem dX10_setLine_80 : decode cX10_setLine 80 = .ok (.lastore, 1) := by decide +kernel
theorem dX10_setLine_81 : decode cX10_setLine 81 = .ok (.aload_n 0, 1) := by decide +kernel
theorem dX10_setLine_82 : decode cX10_setLine 82 = .ok (.getfield 7, 3) := by decide +kernel
theorem dX10_setLine_85 : decode cX10_setLine 85 = .ok (.iconst 0, 1) := by decide +kernel
theorem dX10_setLine_86 : decode cX10_setLine 86 = .ok (.dup2, 1) := by decide +kernel
theorem dX10_setLine_87 : decode cX10_setLine 87 = .ok (.iaload, 1) := by decide +kernel
theorem dX10_setLine_88 : decode cX10_setLine 88 = .ok (.iconst 1, 1) := by decide +kernel
theorem dX10_setLine_89 : decode cX10_setLine 89 = .ok (.iadd, 1) := by decide +kernel
theorem dX10_setLine_90 : decode cX10_setLine 90 = .ok (.iastore, 1) := by decide +kernel
theorem dX10_setLine_91 : decode cX10_setLine 91 = .ok (.iconst 1, 1) := by decide +kernel
theorem dX10_setLine_92 : decode cX10_setLine 92 = .ok (.ireturn, 1) := by decide +kernel
theorem dX10_takesSet_0 : decode cX10_takesSet 0 = .ok (.aload_n 0, 1) := by decide +kernel
theorem dX10_takesSet_1 : decode cX10_takesSet 1 = .ok (.invokevirtual 100, 3) := by decide +kernel
theorem dX10_takesSet_4 : decode cX10_takesSet 4 = .ok (.aload_n 0, 1) := by decide +kernel
theorem dX10_takesSet_5 : decode cX10_takesSet 5 = .ok (.getfield 78, 3) := by decide +kernel
theorem dX10_takesSet_8 : decode cX10_takesSet 8 = .ok (.iconst 1, 1) := by decide +kernel
theorem dX10_takesSet_9 : decode cX10_takesSet 9 = .ok (.if_icmp .eq 9, 3) := by decide +kernel
theorem dX10_takesSet_12 : decode cX10_takesSet 12 = .ok (.aload_n 0, 1) := by decide +kernel
theorem dX10_takesSet_13 : decode cX10_takesSet 13 = .ok (.iconst 1, 1) := by decide +kernel
theorem dX10_takesSet_14 : decode cX10_takesSet 14 = .ok (.invokevirtual 96, 3) := by decide +kernel
theorem dX10_takesSet_17 : decode cX10_takesSet 17 = .ok (.ireturn, 1) := by decide +kernel
theorem dX10_takesSet_18 : decode cX10_takesSet 18 = .ok (.aload_n 0, 1) := by decide +kernel
theorem dX10_takesSet_19 : decode cX10_takesSet 19 = .ok (.aload_n 0, 1) := by decide +kernel
theorem dX10_takesSet_20 : decode cX10_takesSet 20 = .ok (.getfield 28, 3) := by decide +kernel
theorem dX10_takesSet_23 : decode cX10_takesSet 23 = .ok (.aload_n 0, 1) := by decide +kernel
theorem dX10_takesSet_24 : decode cX10_takesSet 24 = .ok (.getfield 7, 3) := by decide +kernel
theorem dX10_takesSet_27 : decode cX10_takesSet 27 = .ok (.iconst 0, 1) := by decide +kernel
theorem dX10_takesSet_28 : decode cX10_takesSet 28 = .ok (.iaload, 1) := by decide +kernel
theorem dX10_takesSet_29 : decode cX10_takesSet 29 = .ok (.aload_n 0, 1) := by decide +kernel
theorem dX10_takesSet_30 : decode cX10_takesSet 30 = .ok (.getfield 57, 3) := by decide +kernel
theorem dX10_takesSet_33 : decode cX10_takesSet 33 = .ok (.invokestatic 114, 3) := by decide +kernel
theorem dX10_takesSet_36 : decode cX10_takesSet 36 = .ok (.putfield 118, 3) := by decide +kernel
theorem dX10_takesSet_39 : decode cX10_takesSet 39 = .ok (.aload_n 0, 1) := by decide +kernel
theorem dX10_takesSet_40 : decode cX10_takesSet 40 = .ok (.iconst 4, 1) := by decide +kernel
theorem dX10_takesSet_41 : decode cX10_takesSet 41 = .ok (.aload_n 0, 1) := by decide +kernel
theorem dX10_takesSet_42 : decode cX10_takesSet 42 = .ok (.getfield 118, 3) := by decide +kernel
theorem dX10_takesSet_45 : decode cX10_takesSet 45 = .ok (.iconst (-1), 1) := by decide +kernel
theorem dX10_takesSet_46 : decode cX10_takesSet 46 = .ok (.if_icmp .eq 7, 3) := by decide +kernel
theorem dX10_takesSet_49 : decode cX10_takesSet 49 = .ok (.iconst 1, 1) := by decide +kernel
theorem dX10_takesSet_50 : decode cX10_takesSet 50 = .ok (.goto 4, 3) := by decide +kernel
theorem dX10_takesSet_53 : decode cX10_takesSet 53 = .ok (.iconst 0, 1) := by decide +kernel
theorem dX10_takesSet_54 : decode cX10_takesSet 54 = .ok (.invokevirtual 110, 3) := by decide +kernel
theorem dX10_takesSet_57 : decode cX10_takesSet 57 = .ok (.ireturn, 1) := by decide +kernel
theorem dX10_of_0 : decode cX10_of 0 = .ok (.aload_n 0, 1) := by decide +kernel
theorem dX10_of_1 : decode cX10_of 1 = .ok (.getfield 7, 3) := by decide +kernel
theorem dX10_of_4 : decode cX10_of 4 = .ok (.bipush 62, 2) := by decide +kernel
theorem dX10_of_6 : decode cX10_of 6 = .ok (.sipush 378, 3) := by decide +kernel
theorem dX10_of_9 : decode cX10_of 9 = .ok (.iload_n 1, 1) := by decide +kernel
theorem dX10_of_10 : decode cX10_of 10 = .ok (.imul, 1) := by decide +kernel
theorem dX10_of_11 : decode cX10_of 11 = .ok (.iadd, 1) := by decide +kernel
theorem dX10_of_12 : decode cX10_of 12 = .ok (.iload_n 2, 1) := by decide +kernel
theorem dX10_of_13 : decode cX10_of 13 = .ok (.iadd, 1) := by decide +kernel
theorem dX10_of_14 : decode cX10_of 14 = .ok (.iaload, 1) := by decide +kernel
theorem dX10_of_15 : decode cX10_of 15 = .ok (.ireturn, 1) := by decide +kernel
theorem dX10_isMember_0 : decode cX10_isMember 0 = .ok (.aload_n 0, 1) := by decide +kernel
theorem dX10_isMember_1 : decode cX10_isMember 1 = .ok (.iload_n 1, 1) := by decide +kernel
theorem dX10_isMember_2 : decode cX10_isMember 2 = .ok (.bipush 70, 2) := by decide +kernel
theorem dX10_isMember_4 : decode cX10_isMember 4 = .ok (.iload_n 2, 1) := by decide +kernel
theorem dX10_isMember_5 : decode cX10_isMember 5 = .ok (.iadd, 1) := by decide +kernel
theorem dX10_isMember_6 : decode cX10_isMember 6 = .ok (.invokevirtual 190, 3) := by decide +kernel
theorem dX10_isMember_9 : decode cX10_isMember 9 = .ok (.istore_n 3, 1) := by decide +kernel
theorem dX10_isMember_10 : decode cX10_isMember 10 = .ok (.iload_n 3, 1) := by decide +kernel
theorem dX10_isMember_11 : decode cX10_isMember 11 = .ok (.aload_n 0, 1) := by decide +kernel
theorem dX10_isMember_12 : decode cX10_isMember 12 = .ok (.iload_n 1, 1) := by decide +kernel
theorem dX10_isMember_13 : decode cX10_isMember 13 = .ok (.iconst 0, 1) := by decide +kernel
theorem dX10_isMember_14 : decode cX10_isMember 14 = .ok (.invokevirtual 190, 3) := by decide +kernel
theorem dX10_isMember_17 : decode cX10_isMember 17 = .ok (.if_icmp .ge 20, 3) := by decide +kernel
theorem dX10_isMember_20 : decode cX10_isMember 20 = .ok (.aload_n 0, 1) := by decide +kernel
theorem dX10_isMember_21 : decode cX10_isMember 21 = .ok (.iload_n 1, 1) := by decide +kernel
theorem dX10_isMember_22 : decode cX10_isMember 22 = .ok (.bipush 6, 2) := by decide +kernel
theorem dX10_isMember_24 : decode cX10_isMember 24 = .ok (.iload_n 3, 1) := by decide +kernel
theorem dX10_isMember_25 : decode cX10_isMember 25 = .ok (.iadd, 1) := by decide +kernel
theorem dX10_isMember_26 : decode cX10_isMember 26 = .ok (.invokevirtual 190, 3) := by decide +kernel
theorem dX10_isMember_29 : decode cX10_isMember 29 = .ok (.iload_n 2, 1) := by decide +kernel
theorem dX10_isMember_30 : decode cX10_isMember 30 = .ok (.if_icmp .ne 7, 3) := by decide +kernel
theorem dX10_isMember_33 : decode cX10_isMember 33 = .ok (.iconst 1, 1) := by decide +kernel
theorem dX10_isMember_34 : decode cX10_isMember 34 = .ok (.goto 4, 3) := by decide +kernel
theorem dX10_isMember_37 : decode cX10_isMember 37 = .ok (.iconst 0, 1) := by decide +kernel
theorem dX10_isMember_38 : decode cX10_isMember 38 = .ok (.ireturn, 1) := by decide +kernel
theorem dX10_sets_0 : decode cX10_sets 0 = .ok (.aload_n 0, 1) := by decide +kernel
theorem dX10_sets_1 : decode cX10_sets 1 = .ok (.getfield 7, 3) := by decide +kernel
theorem dX10_sets_4 : decode cX10_sets 4 = .ok (.bipush 62, 2) := by decide +kernel
theorem dX10_sets_6 : decode cX10_sets 6 = .ok (.sipush 378, 3) := by decide +kernel
theorem dX10_sets_9 : decode cX10_sets 9 = .ok (.iload_n 1, 1) := by decide +kernel
theorem dX10_sets_10 : decode cX10_sets 10 = .ok (.imul, 1) := by decide +kernel
theorem dX10_sets_11 : decode cX10_sets 11 = .ok (.iadd, 1) := by decide +kernel
theorem dX10_sets_12 : decode cX10_sets 12 = .ok (.iload_n 2, 1) := by decide +kernel
theorem dX10_sets_13 : decode cX10_sets 13 = .ok (.iadd, 1) := by decide +kernel
theorem dX10_sets_14 : decode cX10_sets 14 = .ok (.iload_n 3, 1) := by decide +kernel
theorem dX10_sets_15 : decode cX10_sets 15 = .ok (.iastore, 1) := by decide +kernel
theorem dX10_sets_16 : decode cX10_sets 16 = .ok (.return_, 1) := by decide +kernel
theorem dX10_lay_0 : decode cX10_lay 0 = .ok (.aload_n 0, 1) := by decide +kernel
theorem dX10_lay_1 : decode cX10_lay 1 = .ok (.iload_n 1, 1) := by decide +kernel
theorem dX10_lay_2 : decode cX10_lay 2 = .ok (.bipush 6, 2) := by decide +kernel
theorem dX10_lay_4 : decode cX10_lay 4 = .ok (.iload_n 3, 1) := by decide +kernel
theorem dX10_lay_5 : decode cX10_lay 5 = .ok (.iadd, 1) := by decide +kernel
theorem dX10_lay_6 : decode cX10_lay 6 = .ok (.iload_n 2, 1) := by decide +kernel
theorem dX10_lay_7 : decode cX10_lay 7 = .ok (.invokevirtual 194, 3) := by decide +kernel
theorem dX10_lay_10 : decode cX10_lay 10 = .ok (.aload_n 0, 1) := by decide +kernel
theorem dX10_lay_11 : decode cX10_lay 11 = .ok (.iload_n 1, 1) := by decide +kernel
theorem dX10_lay_12 : decode cX10_lay 12 = .ok (.bipush 70, 2) := by decide +kernel
theorem dX10_lay_14 : decode cX10_lay 14 = .ok (.iload_n 2, 1) := by decide +kernel
theorem dX10_lay_15 : decode cX10_lay 15 = .ok (.iadd, 1) := by decide +kernel
theorem dX10_lay_16 : decode cX10_lay 16 = .ok (.iload_n 3, 1) := by decide +kernel
theorem dX10_lay_17 : decode cX10_lay 17 = .ok (.invokevirtual 194, 3) := by decide +kernel
theorem dX10_lay_20 : decode cX10_lay 20 = .ok (.aload_n 0, 1) := by decide +kernel
theorem dX10_lay_21 : decode cX10_lay 21 = .ok (.getfield 7, 3) := by decide +kernel
theorem dX10_lay_24 : decode cX10_lay 24 = .ok (.iconst 5, 1) := by decide +kernel
theorem dX10_lay_25 : decode cX10_lay 25 = .ok (.dup2, 1) := by decide +kernel
theorem dX10_lay_26 : decode cX10_lay 26 = .ok (.iaload, 1) := by decide +kernel
theorem dX10_lay_27 : decode cX10_lay 27 = .ok (.iconst 2, 1) := by decide +kernel
theorem dX10_lay_28 : decode cX10_lay 28 = .ok (.iadd, 1) := by decide +kernel
theorem dX10_lay_29 : decode cX10_lay 29 = .ok (.iastore, 1) := by decide +kernel
theorem dX10_lay_30 : decode cX10_lay 30 = .ok (.return_, 1) := by decide +kernel
theorem dX10_base_0 : decode cX10_base 0 = .ok (.aload_n 0, 1) := by decide +kernel
theorem dX10_base_1 : decode cX10_base 1 = .ok (.iload_n 1, 1) := by decide +kernel
theorem dX10_base_2 : decode cX10_base 2 = .ok (.iconst 5, 1) := by decide +kernel
theorem dX10_base_3 : decode cX10_base 3 = .ok (.invokevirtual 190, 3) := by decide +kernel
theorem dX10_base_6 : decode cX10_base 6 = .ok (.i2l, 1) := by decide +kernel
theorem dX10_base_7 : decode cX10_base 7 = .ok (.bipush 32, 2) := by decide +kernel
theorem dX10_base_9 : decode cX10_base 9 = .ok (.lshl, 1) := by decide +kernel
theorem dX10_base_10 : decode cX10_base 10 = .ok (.aload_n 0, 1) := by decide +kernel
theorem dX10_base_11 : decode cX10_base 11 = .ok (.iload_n 1, 1) := by decide +kernel
theorem dX10_base_12 : decode cX10_base 12 = .ok (.iconst 4, 1) := by decide +kernel
theorem dX10_base_13 : decode cX10_base 13 = .ok (.invokevirtual 190, 3) := by decide +kernel
theorem dX10_base_16 : decode cX10_base 16 = .ok (.i2l, 1) := by decide +kernel
theorem dX10_base_17 : decode cX10_base 17 = .ok (.ldc2_w 203, 3) := by decide +kernel
theorem dX10_base_20 : decode cX10_base 20 = .ok (.land, 1) := by decide +kernel
theorem dX10_base_21 : decode cX10_base 21 = .ok (.lor, 1) := by decide +kernel
theorem dX10_base_22 : decode cX10_base 22 = .ok (.lreturn, 1) := by decide +kernel
theorem dX10_ofEvent_0 : decode cX10_ofEvent 0 = .ok (.aload_n 0, 1) := by decide +kernel
theorem dX10_ofEvent_1 : decode cX10_ofEvent 1 = .ok (.iload_n 1, 1) := by decide +kernel
theorem dX10_ofEvent_2 : decode cX10_ofEvent 2 = .ok (.sipush 198, 3) := by decide +kernel
theorem dX10_ofEvent_5 : decode cX10_ofEvent 5 = .ok (.iconst 3, 1) := by decide +kernel
theorem dX10_ofEvent_6 : decode cX10_ofEvent 6 = .ok (.iload_n 2, 1) := by decide +kernel
theorem dX10_ofEvent_7 : decode cX10_ofEvent 7 = .ok (.imul, 1) := by decide +kernel
theorem dX10_ofEvent_8 : decode cX10_ofEvent 8 = .ok (.iadd, 1) := by decide +kernel
theorem dX10_ofEvent_9 : decode cX10_ofEvent 9 = .ok (.iload_n 3, 1) := by decide +kernel
theorem dX10_ofEvent_10 : decode cX10_ofEvent 10 = .ok (.iadd, 1) := by decide +kernel
theorem dX10_ofEvent_11 : decode cX10_ofEvent 11 = .ok (.invokevirtual 190, 3) := by decide +kernel
theorem dX10_ofEvent_14 : decode cX10_ofEvent 14 = .ok (.ireturn, 1) := by decide +kernel
theorem dX10_behind_0 : decode cX10_behind 0 = .ok (.aload_n 0, 1) := by decide +kernel
theorem dX10_behind_1 : decode cX10_behind 1 = .ok (.iload_n 3, 1) := by decide +kernel
theorem dX10_behind_2 : decode cX10_behind 2 = .ok (.iload 4, 2) := by decide +kernel
theorem dX10_behind_4 : decode cX10_behind 4 = .ok (.iconst 2, 1) := by decide +kernel
theorem dX10_behind_5 : decode cX10_behind 5 = .ok (.invokevirtual 197, 3) := by decide +kernel
theorem dX10_behind_8 : decode cX10_behind 8 = .ok (.istore 5, 2) := by decide +kernel
theorem dX10_behind_10 : decode cX10_behind 10 = .ok (.iload 5, 2) := by decide +kernel
theorem dX10_behind_12 : decode cX10_behind 12 = .ok (.iconst 2, 1) := by decide +kernel
theorem dX10_behind_13 : decode cX10_behind 13 = .ok (.if_icmp .ne 5, 3) := by decide +kernel
theorem dX10_behind_16 : decode cX10_behind 16 = .ok (.lconst 0, 1) := by decide +kernel
theorem dX10_behind_17 : decode cX10_behind 17 = .ok (.lreturn, 1) := by decide +kernel
theorem dX10_behind_18 : decode cX10_behind 18 = .ok (.lconst 1, 1) := by decide +kernel
theorem dX10_behind_19 : decode cX10_behind 19 = .ok (.aload_n 0, 1) := by decide +kernel
theorem dX10_behind_20 : decode cX10_behind 20 = .ok (.iload_n 3, 1) := by decide +kernel
theorem dX10_behind_21 : decode cX10_behind 21 = .ok (.iload 4, 2) := by decide +kernel
theorem dX10_behind_23 : decode cX10_behind 23 = .ok (.iconst 1, 1) := by decide +kernel
theorem dX10_behind_24 : decode cX10_behind 24 = .ok (.invokevirtual 197, 3) := by decide +kernel
theorem dX10_behind_27 : decode cX10_behind 27 = .ok (.lshl, 1) := by decide +kernel
theorem dX10_behind_28 : decode cX10_behind 28 = .ok (.lstore 6, 2) := by decide +kernel
theorem dX10_behind_30 : decode cX10_behind 30 = .ok (.iload 5, 2) := by decide +kernel
theorem dX10_behind_32 : decode cX10_behind 32 = .ok (.ifCond .ne 10, 3) := by decide +kernel
theorem dX10_behind_35 : decode cX10_behind 35 = .ok (.lload_n 1, 1) := by decide +kernel
theorem dX10_behind_36 : decode cX10_behind 36 = .ok (.lload 6, 2) := by decide +kernel
theorem dX10_behind_38 : decode cX10_behind 38 = .ok (.lor, 1) := by decide +kernel
theorem dX10_behind_39 : decode cX10_behind 39 = .ok (.goto 11, 3) := by decide +kernel
theorem dX10_behind_42 : decode cX10_behind 42 = .ok (.lload_n 1, 1) := by decide +kernel
theorem dX10_behind_43 : decode cX10_behind 43 = .ok (.lload 6, 2) := by decide +kernel
theorem dX10_behind_45 : decode cX10_behind 45 = .ok (.ldc2_w 201, 3) := by decide +kernel
theorem dX10_behind_48 : decode cX10_behind 48 = .ok (.lxor, 1) := by decide +kernel
theorem dX10_behind_49 : decode cX10_behind 49 = .ok (.land, 1) := by decide +kernel
theorem dX10_behind_50 : decode cX10_behind 50 = .ok (.lreturn, 1) := by decide +kernel
theorem dX10_setsEvent_0 : decode cX10_setsEvent 0 = .ok (.aload_n 0, 1) := by decide +kernel
theorem dX10_setsEvent_1 : decode cX10_setsEvent 1 = .ok (.iload_n 1, 1) := by decide +kernel
theorem dX10_setsEvent_2 : decode cX10_setsEvent 2 = .ok (.sipush 198, 3) := by decide +kernel
theorem dX10_setsEvent_5 : decode cX10_setsEvent 5 = .ok (.iconst 3, 1) := by decide +kernel
theorem dX10_setsEvent_6 : decode cX10_setsEvent 6 = .ok (.iload_n 2, 1) := by decide +kernel
theorem dX10_setsEvent_7 : decode cX10_setsEvent 7 = .ok (.imul, 1) := by decide +kernel
theorem dX10_setsEvent_8 : decode cX10_setsEvent 8 = .ok (.iadd, 1) := by decide +kernel
theorem dX10_setsEvent_9 : decode cX10_setsEvent 9 = .ok (.iload_n 3, 1) := by decide +kernel
theorem dX10_setsEvent_10 : decode cX10_setsEvent 10 = .ok (.invokevirtual 194, 3) := by decide +kernel
theorem dX10_setsEvent_13 : decode cX10_setsEvent 13 = .ok (.aload_n 0, 1) := by decide +kernel
theorem dX10_setsEvent_14 : decode cX10_setsEvent 14 = .ok (.iload_n 1, 1) := by decide +kernel
theorem dX10_setsEvent_15 : decode cX10_setsEvent 15 = .ok (.sipush 198, 3) := by decide +kernel
theorem dX10_setsEvent_18 : decode cX10_setsEvent 18 = .ok (.iconst 3, 1) := by decide +kernel
theorem dX10_setsEvent_19 : decode cX10_setsEvent 19 = .ok (.iload_n 2, 1) := by decide +kernel
theorem dX10_setsEvent_20 : decode cX10_setsEvent 20 = .ok (.imul, 1) := by decide +kernel
theorem dX10_setsEvent_21 : decode cX10_setsEvent 21 = .ok (.iadd, 1) := by decide +kernel
theorem dX10_setsEvent_22 : decode cX10_setsEvent 22 = .ok (.iconst 1, 1) := by decide +kernel
theorem dX10_setsEvent_23 : decode cX10_setsEvent 23 = .ok (.iadd, 1) := by decide +kernel
theorem dX10_setsEvent_24 : decode cX10_setsEvent 24 = .ok (.iload 4, 2) := by decide +kernel
theorem dX10_setsEvent_26 : decode cX10_setsEvent 26 = .ok (.invokevirtual 194, 3) := by decide +kernel
theorem dX10_setsEvent_29 : decode cX10_setsEvent 29 = .ok (.aload_n 0, 1) := by decide +kernel
theorem dX10_setsEvent_30 : decode cX10_setsEvent 30 = .ok (.iload_n 1, 1) := by decide +kernel
theorem dX10_setsEvent_31 : decode cX10_setsEvent 31 = .ok (.sipush 198, 3) := by decide +kernel
theorem dX10_setsEvent_34 : decode cX10_setsEvent 34 = .ok (.iconst 3, 1) := by decide +kernel
theorem dX10_setsEvent_35 : decode cX10_setsEvent 35 = .ok (.iload_n 2, 1) := by decide +kernel
theorem dX10_setsEvent_36 : decode cX10_setsEvent 36 = .ok (.imul, 1) := by decide +kernel
theorem dX10_setsEvent_37 : decode cX10_setsEvent 37 = .ok (.iadd, 1) := by decide +kernel
theorem dX10_setsEvent_38 : decode cX10_setsEvent 38 = .ok (.iconst 2, 1) := by decide +kernel
theorem dX10_setsEvent_39 : decode cX10_setsEvent 39 = .ok (.iadd, 1) := by decide +kernel
theorem dX10_setsEvent_40 : decode cX10_setsEvent 40 = .ok (.iload 5, 2) := by decide +kernel
theorem dX10_setsEvent_42 : decode cX10_setsEvent 42 = .ok (.invokevirtual 194, 3) := by decide +kernel
theorem dX10_setsEvent_45 : decode cX10_setsEvent 45 = .ok (.return_, 1) := by decide +kernel
theorem dX10_forgets_0 : decode cX10_forgets 0 = .ok (.aload_n 0, 1) := by decide +kernel
theorem dX10_forgets_1 : decode cX10_forgets 1 = .ok (.aload_n 0, 1) := by decide +kernel
theorem dX10_forgets_2 : decode cX10_forgets 2 = .ok (.iload_n 1, 1) := by decide +kernel
theorem dX10_forgets_3 : decode cX10_forgets 3 = .ok (.invokevirtual 205, 3) := by decide +kernel
theorem dX10_forgets_6 : decode cX10_forgets 6 = .ok (.iload_n 1, 1) := by decide +kernel
theorem dX10_forgets_7 : decode cX10_forgets 7 = .ok (.iconst 0, 1) := by decide +kernel
theorem dX10_forgets_8 : decode cX10_forgets 8 = .ok (.invokevirtual 209, 3) := by decide +kernel
theorem dX10_forgets_11 : decode cX10_forgets 11 = .ok (.lstore_n 2, 1) := by decide +kernel
theorem dX10_forgets_12 : decode cX10_forgets 12 = .ok (.aload_n 0, 1) := by decide +kernel
theorem dX10_forgets_13 : decode cX10_forgets 13 = .ok (.iload_n 1, 1) := by decide +kernel
theorem dX10_forgets_14 : decode cX10_forgets 14 = .ok (.iconst 4, 1) := by decide +kernel
theorem dX10_forgets_15 : decode cX10_forgets 15 = .ok (.lload_n 2, 1) := by decide +kernel
theorem dX10_forgets_16 : decode cX10_forgets 16 = .ok (.l2i, 1) := by decide +kernel
theorem dX10_forgets_17 : decode cX10_forgets 17 = .ok (.invokevirtual 194, 3) := by decide +kernel
theorem dX10_forgets_20 : decode cX10_forgets 20 = .ok (.aload_n 0, 1) := by decide +kernel
theorem dX10_forgets_21 : decode cX10_forgets 21 = .ok (.iload_n 1, 1) := by decide +kernel
theorem dX10_forgets_22 : decode cX10_forgets 22 = .ok (.iconst 5, 1) := by decide +kernel
theorem dX10_forgets_23 : decode cX10_forgets 23 = .ok (.lload_n 2, 1) := by decide +kernel
theorem dX10_forgets_24 : decode cX10_forgets 24 = .ok (.bipush 32, 2) := by decide +kernel
theorem dX10_forgets_26 : decode cX10_forgets 26 = .ok (.lshr, 1) := by decide +kernel
theorem dX10_forgets_27 : decode cX10_forgets 27 = .ok (.l2i, 1) := by decide +kernel
theorem dX10_forgets_28 : decode cX10_forgets 28 = .ok (.invokevirtual 194, 3) := by decide +kernel
theorem dX10_forgets_31 : decode cX10_forgets 31 = .ok (.aload_n 0, 1) := by decide +kernel
theorem dX10_forgets_32 : decode cX10_forgets 32 = .ok (.iload_n 1, 1) := by decide +kernel
theorem dX10_forgets_33 : decode cX10_forgets 33 = .ok (.iconst 2, 1) := by decide +kernel
theorem dX10_forgets_34 : decode cX10_forgets 34 = .ok (.aload_n 0, 1) := by decide +kernel
theorem dX10_forgets_35 : decode cX10_forgets 35 = .ok (.iload_n 1, 1) := by decide +kernel
theorem dX10_forgets_36 : decode cX10_forgets 36 = .ok (.iconst 0, 1) := by decide +kernel
theorem dX10_forgets_37 : decode cX10_forgets 37 = .ok (.iconst 0, 1) := by decide +kernel
theorem dX10_forgets_38 : decode cX10_forgets 38 = .ok (.invokevirtual 197, 3) := by decide +kernel
theorem dX10_forgets_41 : decode cX10_forgets 41 = .ok (.invokevirtual 194, 3) := by decide +kernel
theorem dX10_forgets_44 : decode cX10_forgets 44 = .ok (.aload_n 0, 1) := by decide +kernel
theorem dX10_forgets_45 : decode cX10_forgets 45 = .ok (.iload_n 1, 1) := by decide +kernel
theorem dX10_forgets_46 : decode cX10_forgets 46 = .ok (.iconst 3, 1) := by decide +kernel
theorem dX10_forgets_47 : decode cX10_forgets 47 = .ok (.invokevirtual 190, 3) := by decide +kernel
theorem dX10_forgets_50 : decode cX10_forgets 50 = .ok (.iconst 1, 1) := by decide +kernel
theorem dX10_forgets_51 : decode cX10_forgets 51 = .ok (.isub, 1) := by decide +kernel
theorem dX10_forgets_52 : decode cX10_forgets 52 = .ok (.istore 4, 2) := by decide +kernel
theorem dX10_forgets_54 : decode cX10_forgets 54 = .ok (.aload_n 0, 1) := by decide +kernel
theorem dX10_forgets_55 : decode cX10_forgets 55 = .ok (.iload_n 1, 1) := by decide +kernel
theorem dX10_forgets_56 : decode cX10_forgets 56 = .ok (.iconst 3, 1) := by decide +kernel
theorem dX10_forgets_57 : decode cX10_forgets 57 = .ok (.iload 4, 2) := by decide +kernel
theorem dX10_forgets_59 : decode cX10_forgets 59 = .ok (.invokevirtual 194, 3) := by decide +kernel
theorem dX10_forgets_62 : decode cX10_forgets 62 = .ok (.iconst 0, 1) := by decide +kernel
theorem dX10_forgets_63 : decode cX10_forgets 63 = .ok (.istore 5, 2) := by decide +kernel
theorem dX10_forgets_65 : decode cX10_forgets 65 = .ok (.iload 5, 2) := by decide +kernel
theorem dX10_forgets_67 : decode cX10_forgets 67 = .ok (.iload 4, 2) := by decide +kernel
theorem dX10_forgets_69 : decode cX10_forgets 69 = .ok (.if_icmp .ge 46, 3) := by decide +kernel
theorem dX10_forgets_72 : decode cX10_forgets 72 = .ok (.aload_n 0, 1) := by decide +kernel
theorem dX10_forgets_73 : decode cX10_forgets 73 = .ok (.iload_n 1, 1) := by decide +kernel
theorem dX10_forgets_74 : decode cX10_forgets 74 = .ok (.iload 5, 2) := by decide +kernel
theorem dX10_forgets_76 : decode cX10_forgets 76 = .ok (.aload_n 0, 1) := by decide +kernel
theorem dX10_forgets_77 : decode cX10_forgets 77 = .ok (.iload_n 1, 1) := by decide +kernel
theorem dX10_forgets_78 : decode cX10_forgets 78 = .ok (.iload 5, 2) := by decide +kernel
theorem dX10_forgets_80 : decode cX10_forgets 80 = .ok (.iconst 1, 1) := by decide +kernel
theorem dX10_forgets_81 : decode cX10_forgets 81 = .ok (.iadd, 1) := by decide +kernel
theorem dX10_forgets_82 : decode cX10_forgets 82 = .ok (.iconst 0, 1) := by decide +kernel
theorem dX10_forgets_83 : decode cX10_forgets 83 = .ok (.invokevirtual 197, 3) := by decide +kernel
theorem dX10_forgets_86 : decode cX10_forgets 86 = .ok (.aload_n 0, 1) := by decide +kernel
theorem dX10_forgets_87 : decode cX10_forgets 87 = .ok (.iload_n 1, 1) := by decide +kernel
theorem dX10_forgets_88 : decode cX10_forgets 88 = .ok (.iload 5, 2) := by decide +kernel
theorem dX10_forgets_90 : decode cX10_forgets 90 = .ok (.iconst 1, 1) := by decide +kernel
theorem dX10_forgets_91 : decode cX10_forgets 91 = .ok (.iadd, 1) := by decide +kernel
theorem dX10_forgets_92 : decode cX10_forgets 92 = .ok (.iconst 1, 1) := by decide +kernel
theorem dX10_forgets_93 : decode cX10_forgets 93 = .ok (.invokevirtual 197, 3) := by decide +kernel
theorem dX10_forgets_96 : decode cX10_forgets 96 = .ok (.aload_n 0, 1) := by decide +kernel
theorem dX10_forgets_97 : decode cX10_forgets 97 = .ok (.iload_n 1, 1) := by decide +kernel
theorem dX10_forgets_98 : decode cX10_forgets 98 = .ok (.iload 5, 2) := by decide +kernel
theorem dX10_forgets_100 : decode cX10_forgets 100 = .ok (.iconst 1, 1) := by decide +kernel
theorem dX10_forgets_101 : decode cX10_forgets 101 = .ok (.iadd, 1) := by decide +kernel
theorem dX10_forgets_102 : decode cX10_forgets 102 = .ok (.iconst 2, 1) := by decide +kernel
theorem dX10_forgets_103 : decode cX10_forgets 103 = .ok (.invokevirtual 197, 3) := by decide +kernel
theorem dX10_forgets_106 : decode cX10_forgets 106 = .ok (.invokevirtual 213, 3) := by decide +kernel
theorem dX10_forgets_109 : decode cX10_forgets 109 = .ok (.iinc 5 1, 3) := by decide +kernel
theorem dX10_forgets_112 : decode cX10_forgets 112 = .ok (.goto (-47), 3) := by decide +kernel
theorem dX10_forgets_115 : decode cX10_forgets 115 = .ok (.return_, 1) := by decide +kernel
theorem dX10_happens_0 : decode cX10_happens 0 = .ok (.aload_n 0, 1) := by decide +kernel
theorem dX10_happens_1 : decode cX10_happens 1 = .ok (.getfield 7, 3) := by decide +kernel
theorem dX10_happens_4 : decode cX10_happens 4 = .ok (.iconst 3, 1) := by decide +kernel
theorem dX10_happens_5 : decode cX10_happens 5 = .ok (.dup2, 1) := by decide +kernel
theorem dX10_happens_6 : decode cX10_happens 6 = .ok (.iaload, 1) := by decide +kernel
theorem dX10_happens_7 : decode cX10_happens 7 = .ok (.iconst 1, 1) := by decide +kernel
theorem dX10_happens_8 : decode cX10_happens 8 = .ok (.iadd, 1) := by decide +kernel
theorem dX10_happens_9 : decode cX10_happens 9 = .ok (.iastore, 1) := by decide +kernel
theorem dX10_happens_10 : decode cX10_happens 10 = .ok (.aload_n 0, 1) := by decide +kernel
theorem dX10_happens_11 : decode cX10_happens 11 = .ok (.iload_n 1, 1) := by decide +kernel
theorem dX10_happens_12 : decode cX10_happens 12 = .ok (.iconst 3, 1) := by decide +kernel
theorem dX10_happens_13 : decode cX10_happens 13 = .ok (.invokevirtual 190, 3) := by decide +kernel
theorem dX10_happens_16 : decode cX10_happens 16 = .ok (.aload_n 0, 1) := by decide +kernel
theorem dX10_happens_17 : decode cX10_happens 17 = .ok (.getfield 7, 3) := by decide +kernel
theorem dX10_happens_20 : decode cX10_happens 20 = .ok (.iconst 2, 1) := by decide +kernel
theorem dX10_happens_21 : decode cX10_happens 21 = .ok (.iaload, 1) := by decide +kernel
theorem dX10_happens_22 : decode cX10_happens 22 = .ok (.if_icmp .ne 8, 3) := by decide +kernel
theorem dX10_happens_25 : decode cX10_happens 25 = .ok (.aload_n 0, 1) := by decide +kernel
theorem dX10_happens_26 : decode cX10_happens 26 = .ok (.iload_n 1, 1) := by decide +kernel
theorem dX10_happens_27 : decode cX10_happens 27 = .ok (.invokevirtual 217, 3) := by decide +kernel
theorem dX10_happens_30 : decode cX10_happens 30 = .ok (.aload_n 0, 1) := by decide +kernel
theorem dX10_happens_31 : decode cX10_happens 31 = .ok (.iload_n 1, 1) := by decide +kernel
theorem dX10_happens_32 : decode cX10_happens 32 = .ok (.iconst 3, 1) := by decide +kernel
theorem dX10_happens_33 : decode cX10_happens 33 = .ok (.invokevirtual 190, 3) := by decide +kernel
theorem dX10_happens_36 : decode cX10_happens 36 = .ok (.istore 4, 2) := by decide +kernel
theorem dX10_happens_38 : decode cX10_happens 38 = .ok (.aload_n 0, 1) := by decide +kernel
theorem dX10_happens_39 : decode cX10_happens 39 = .ok (.iload_n 1, 1) := by decide +kernel
theorem dX10_happens_40 : decode cX10_happens 40 = .ok (.iload 4, 2) := by decide +kernel
theorem dX10_happens_42 : decode cX10_happens 42 = .ok (.aload_n 0, 1) := by decide +kernel
theorem dX10_happens_43 : decode cX10_happens 43 = .ok (.getfield 7, 3) := by decide +kernel
theorem dX10_happens_46 : decode cX10_happens 46 = .ok (.iconst 3, 1) := by decide +kernel
theorem dX10_happens_47 : decode cX10_happens 47 = .ok (.iaload, 1) := by decide +kernel
theorem dX10_happens_48 : decode cX10_happens 48 = .ok (.iload_n 2, 1) := by decide +kernel
theorem dX10_happens_49 : decode cX10_happens 49 = .ok (.iload_n 3, 1) := by decide +kernel
theorem dX10_happens_50 : decode cX10_happens 50 = .ok (.invokevirtual 213, 3) := by decide +kernel
theorem dX10_happens_53 : decode cX10_happens 53 = .ok (.aload_n 0, 1) := by decide +kernel
theorem dX10_happens_54 : decode cX10_happens 54 = .ok (.iload_n 1, 1) := by decide +kernel
theorem dX10_happens_55 : decode cX10_happens 55 = .ok (.iconst 3, 1) := by decide +kernel
theorem dX10_happens_56 : decode cX10_happens 56 = .ok (.iload 4, 2) := by decide +kernel
theorem dX10_happens_58 : decode cX10_happens 58 = .ok (.iconst 1, 1) := by decide +kernel
theorem dX10_happens_59 : decode cX10_happens 59 = .ok (.iadd, 1) := by decide +kernel
theorem dX10_happens_60 : decode cX10_happens 60 = .ok (.invokevirtual 194, 3) := by decide +kernel
theorem dX10_happens_63 : decode cX10_happens 63 = .ok (.return_, 1) := by decide +kernel
theorem dX10_comes_0 : decode cX10_comes 0 = .ok (.aload_n 0, 1) := by decide +kernel
theorem dX10_comes_1 : decode cX10_comes 1 = .ok (.iload_n 1, 1) := by decide +kernel
theorem dX10_comes_2 : decode cX10_comes 2 = .ok (.iload_n 2, 1) := by decide +kernel
theorem dX10_comes_3 : decode cX10_comes 3 = .ok (.invokevirtual 129, 3) := by decide +kernel
theorem dX10_comes_6 : decode cX10_comes 6 = .ok (.ifCond .eq 4, 3) := by decide +kernel
theorem dX10_comes_9 : decode cX10_comes 9 = .ok (.return_, 1) := by decide +kernel
theorem dX10_comes_10 : decode cX10_comes 10 = .ok (.aload_n 0, 1) := by decide +kernel
theorem dX10_comes_11 : decode cX10_comes 11 = .ok (.iload_n 1, 1) := by decide +kernel
theorem dX10_comes_12 : decode cX10_comes 12 = .ok (.iload_n 2, 1) := by decide +kernel
theorem dX10_comes_13 : decode cX10_comes 13 = .ok (.aload_n 0, 1) := by decide +kernel
theorem dX10_comes_14 : decode cX10_comes 14 = .ok (.iload_n 1, 1) := by decide +kernel
theorem dX10_comes_15 : decode cX10_comes 15 = .ok (.iconst 0, 1) := by decide +kernel
theorem dX10_comes_16 : decode cX10_comes 16 = .ok (.invokevirtual 190, 3) := by decide +kernel
theorem dX10_comes_19 : decode cX10_comes 19 = .ok (.invokevirtual 220, 3) := by decide +kernel
theorem dX10_comes_22 : decode cX10_comes 22 = .ok (.aload_n 0, 1) := by decide +kernel
theorem dX10_comes_23 : decode cX10_comes 23 = .ok (.iload_n 1, 1) := by decide +kernel
theorem dX10_comes_24 : decode cX10_comes 24 = .ok (.iconst 0, 1) := by decide +kernel
theorem dX10_comes_25 : decode cX10_comes 25 = .ok (.aload_n 0, 1) := by decide +kernel
theorem dX10_comes_26 : decode cX10_comes 26 = .ok (.iload_n 1, 1) := by decide +kernel
theorem dX10_comes_27 : decode cX10_comes 27 = .ok (.iconst 0, 1) := by decide +kernel
theorem dX10_comes_28 : decode cX10_comes 28 = .ok (.invokevirtual 190, 3) := by decide +kernel
theorem dX10_comes_31 : decode cX10_comes 31 = .ok (.iconst 1, 1) := by decide +kernel
theorem dX10_comes_32 : decode cX10_comes 32 = .ok (.iadd, 1) := by decide +kernel
theorem dX10_comes_33 : decode cX10_comes 33 = .ok (.invokevirtual 194, 3) := by decide +kernel
theorem dX10_comes_36 : decode cX10_comes 36 = .ok (.aload_n 0, 1) := by decide +kernel
theorem dX10_comes_37 : decode cX10_comes 37 = .ok (.iload_n 1, 1) := by decide +kernel
theorem dX10_comes_38 : decode cX10_comes 38 = .ok (.iload_n 2, 1) := by decide +kernel
theorem dX10_comes_39 : decode cX10_comes 39 = .ok (.iconst 0, 1) := by decide +kernel
theorem dX10_comes_40 : decode cX10_comes 40 = .ok (.invokevirtual 223, 3) := by decide +kernel
theorem dX10_comes_43 : decode cX10_comes 43 = .ok (.aload_n 0, 1) := by decide +kernel
theorem dX10_comes_44 : decode cX10_comes 44 = .ok (.iload_n 1, 1) := by decide +kernel
theorem dX10_comes_45 : decode cX10_comes 45 = .ok (.sipush 134, 3) := by decide +kernel
theorem dX10_comes_48 : decode cX10_comes 48 = .ok (.iload_n 2, 1) := by decide +kernel
theorem dX10_comes_49 : decode cX10_comes 49 = .ok (.iadd, 1) := by decide +kernel
theorem dX10_comes_50 : decode cX10_comes 50 = .ok (.aload_n 0, 1) := by decide +kernel
theorem dX10_comes_51 : decode cX10_comes 51 = .ok (.getfield 7, 3) := by decide +kernel
theorem dX10_comes_54 : decode cX10_comes 54 = .ok (.iconst 3, 1) := by decide +kernel
theorem dX10_comes_55 : decode cX10_comes 55 = .ok (.iaload, 1) := by decide +kernel
theorem dX10_comes_56 : decode cX10_comes 56 = .ok (.invokevirtual 194, 3) := by decide +kernel
theorem dX10_comes_59 : decode cX10_comes 59 = .ok (.return_, 1) := by decide +kernel
theorem dX10_ofCursor_0 : decode cX10_ofCursor 0 = .ok (.aload_n 0, 1) := by decide +kernel
theorem dX10_ofCursor_1 : decode cX10_ofCursor 1 = .ok (.getfield 7, 3) := by decide +kernel
theorem dX10_ofCursor_4 : decode cX10_ofCursor 4 = .ok (.bipush 14, 2) := by decide +kernel
theorem dX10_ofCursor_6 : decode cX10_ofCursor 6 = .ok (.bipush 8, 2) := by decide +kernel
theorem dX10_ofCursor_8 : decode cX10_ofCursor 8 = .ok (.iload_n 1, 1) := by decide +kernel
theorem dX10_ofCursor_9 : decode cX10_ofCursor 9 = .ok (.imul, 1) := by decide +kernel
theorem dX10_ofCursor_10 : decode cX10_ofCursor 10 = .ok (.iadd, 1) := by decide +kernel
theorem dX10_ofCursor_11 : decode cX10_ofCursor 11 = .ok (.iload_n 2, 1) := by decide +kernel
theorem dX10_ofCursor_12 : decode cX10_ofCursor 12 = .ok (.iadd, 1) := by decide +kernel
theorem dX10_ofCursor_13 : decode cX10_ofCursor 13 = .ok (.iaload, 1) := by decide +kernel
theorem dX10_ofCursor_14 : decode cX10_ofCursor 14 = .ok (.ireturn, 1) := by decide +kernel
theorem dX10_isOn_0 : decode cX10_isOn 0 = .ok (.aload_n 0, 1) := by decide +kernel
theorem dX10_isOn_1 : decode cX10_isOn 1 = .ok (.iload_n 1, 1) := by decide +kernel
theorem dX10_isOn_2 : decode cX10_isOn 2 = .ok (.iconst 0, 1) := by decide +kernel
theorem dX10_isOn_3 : decode cX10_isOn 3 = .ok (.invokevirtual 226, 3) := by decide +kernel
theorem dX10_isOn_6 : decode cX10_isOn 6 = .ok (.iconst 1, 1) := by decide +kernel
theorem dX10_isOn_7 : decode cX10_isOn 7 = .ok (.if_icmp .ne 27, 3) := by decide +kernel
theorem dX10_isOn_10 : decode cX10_isOn 10 = .ok (.aload_n 0, 1) := by decide +kernel
theorem dX10_isOn_11 : decode cX10_isOn 11 = .ok (.iload_n 1, 1) := by decide +kernel
theorem dX10_isOn_12 : decode cX10_isOn 12 = .ok (.iconst 3, 1) := by decide +kernel
theorem dX10_isOn_13 : decode cX10_isOn 13 = .ok (.invokevirtual 226, 3) := by decide +kernel
theorem dX10_isOn_16 : decode cX10_isOn 16 = .ok (.iconst 1, 1) := by decide +kernel
theorem dX10_isOn_17 : decode cX10_isOn 17 = .ok (.if_icmp .ne 17, 3) := by decide +kernel
theorem dX10_isOn_20 : decode cX10_isOn 20 = .ok (.aload_n 0, 1) := by decide +kernel
theorem dX10_isOn_21 : decode cX10_isOn 21 = .ok (.iload_n 1, 1) := by decide +kernel
theorem dX10_isOn_22 : decode cX10_isOn 22 = .ok (.iconst 1, 1) := by decide +kernel
theorem dX10_isOn_23 : decode cX10_isOn 23 = .ok (.invokevirtual 226, 3) := by decide +kernel
theorem dX10_isOn_26 : decode cX10_isOn 26 = .ok (.iload_n 2, 1) := by decide +kernel
theorem dX10_isOn_27 : decode cX10_isOn 27 = .ok (.if_icmp .ne 7, 3) := by decide +kernel
theorem dX10_isOn_30 : decode cX10_isOn 30 = .ok (.iconst 1, 1) := by decide +kernel
theorem dX10_isOn_31 : decode cX10_isOn 31 = .ok (.goto 4, 3) := by decide +kernel
theorem dX10_isOn_34 : decode cX10_isOn 34 = .ok (.iconst 0, 1) := by decide +kernel
theorem dX10_isOn_35 : decode cX10_isOn 35 = .ok (.ireturn, 1) := by decide +kernel
theorem dX10_orders_0 : decode cX10_orders 0 = .ok (.iconst 0, 1) := by decide +kernel
theorem dX10_orders_1 : decode cX10_orders 1 = .ok (.istore_n 2, 1) := by decide +kernel
theorem dX10_orders_2 : decode cX10_orders 2 = .ok (.iconst 0, 1) := by decide +kernel
theorem dX10_orders_3 : decode cX10_orders 3 = .ok (.istore_n 3, 1) := by decide +kernel
theorem dX10_orders_4 : decode cX10_orders 4 = .ok (.iload_n 3, 1) := by decide +kernel
theorem dX10_orders_5 : decode cX10_orders 5 = .ok (.bipush 6, 2) := by decide +kernel
theorem dX10_orders_7 : decode cX10_orders 7 = .ok (.if_icmp .ge 85, 3) := by decide +kernel
theorem dX10_orders_10 : decode cX10_orders 10 = .ok (.aload_n 0, 1) := by decide +kernel
theorem dX10_orders_11 : decode cX10_orders 11 = .ok (.iload_n 3, 1) := by decide +kernel
theorem dX10_orders_12 : decode cX10_orders 12 = .ok (.iload_n 1, 1) := by decide +kernel
theorem dX10_orders_13 : decode cX10_orders 13 = .ok (.invokevirtual 229, 3) := by decide +kernel
theorem dX10_orders_16 : decode cX10_orders 16 = .ok (.ifCond .ne 6, 3) := by decide +kernel
theorem dX10_orders_19 : decode cX10_orders 19 = .ok (.goto 67, 3) := by decide +kernel
theorem dX10_orders_22 : decode cX10_orders 22 = .ok (.iload_n 2, 1) := by decide +kernel
theorem dX10_orders_23 : decode cX10_orders 23 = .ok (.istore 4, 2) := by decide +kernel
theorem dX10_orders_25 : decode cX10_orders 25 = .ok (.iload 4, 2) := by decide +kernel
theorem dX10_orders_27 : decode cX10_orders 27 = .ok (.ifCond .le 48, 3) := by decide +kernel
theorem dX10_orders_30 : decode cX10_orders 30 = .ok (.aload_n 0, 1) := by decide +kernel
theorem dX10_orders_31 : decode cX10_orders 31 = .ok (.aload_n 0, 1) := by decide +kernel
theorem dX10_orders_32 : decode cX10_orders 32 = .ok (.getfield 31, 3) := by decide +kernel
theorem dX10_orders_35 : decode cX10_orders 35 = .ok (.iload 4, 2) := by decide +kernel
theorem dX10_orders_37 : decode cX10_orders 37 = .ok (.iconst 1, 1) := by decide +kernel
theorem dX10_orders_38 : decode cX10_orders 38 = .ok (.isub, 1) := by decide +kernel
theorem dX10_orders_39 : decode cX10_orders 39 = .ok (.iaload, 1) := by decide +kernel
theorem dX10_orders_40 : decode cX10_orders 40 = .ok (.iconst 2, 1) := by decide +kernel
theorem dX10_orders_41 : decode cX10_orders 41 = .ok (.invokevirtual 226, 3) := by decide +kernel
theorem dX10_orders_44 : decode cX10_orders 44 = .ok (.aload_n 0, 1) := by decide +kernel
theorem dX10_orders_45 : decode cX10_orders 45 = .ok (.iload_n 3, 1) := by decide +kernel
theorem dX10_orders_46 : decode cX10_orders 46 = .ok (.iconst 2, 1) := by decide +kernel
theorem dX10_orders_47 : decode cX10_orders 47 = .ok (.invokevirtual 226, 3) := by decide +kernel
theorem dX10_orders_50 : decode cX10_orders 50 = .ok (.if_icmp .le 25, 3) := by decide +kernel
theorem dX10_orders_53 : decode cX10_orders 53 = .ok (.aload_n 0, 1) := by decide +kernel
theorem dX10_orders_54 : decode cX10_orders 54 = .ok (.getfield 31, 3) := by decide +kernel
theorem dX10_orders_57 : decode cX10_orders 57 = .ok (.iload 4, 2) := by decide +kernel
theorem dX10_orders_59 : decode cX10_orders 59 = .ok (.aload_n 0, 1) := by decide +kernel
theorem dX10_orders_60 : decode cX10_orders 60 = .ok (.getfield 31, 3) := by decide +kernel
theorem dX10_orders_63 : decode cX10_orders 63 = .ok (.iload 4, 2) := by decide +kernel
theorem dX10_orders_65 : decode cX10_orders 65 = .ok (.iconst 1, 1) := by decide +kernel
theorem dX10_orders_66 : decode cX10_orders 66 = .ok (.isub, 1) := by decide +kernel
theorem dX10_orders_67 : decode cX10_orders 67 = .ok (.iaload, 1) := by decide +kernel
theorem dX10_orders_68 : decode cX10_orders 68 = .ok (.iastore, 1) := by decide +kernel
theorem dX10_orders_69 : decode cX10_orders 69 = .ok (.iinc 4 (-1), 3) := by decide +kernel
theorem dX10_orders_72 : decode cX10_orders 72 = .ok (.goto (-47), 3) := by decide +kernel
theorem dX10_orders_75 : decode cX10_orders 75 = .ok (.aload_n 0, 1) := by decide +kernel
theorem dX10_orders_76 : decode cX10_orders 76 = .ok (.getfield 31, 3) := by decide +kernel
theorem dX10_orders_79 : decode cX10_orders 79 = .ok (.iload 4, 2) := by decide +kernel
theorem dX10_orders_81 : decode cX10_orders 81 = .ok (.iload_n 3, 1) := by decide +kernel
theorem dX10_orders_82 : decode cX10_orders 82 = .ok (.iastore, 1) := by decide +kernel
theorem dX10_orders_83 : decode cX10_orders 83 = .ok (.iinc 2 1, 3) := by decide +kernel
theorem dX10_orders_86 : decode cX10_orders 86 = .ok (.iinc 3 1, 3) := by decide +kernel
theorem dX10_orders_89 : decode cX10_orders 89 = .ok (.goto (-85), 3) := by decide +kernel
theorem dX10_orders_92 : decode cX10_orders 92 = .ok (.iload_n 2, 1) := by decide +kernel
theorem dX10_orders_93 : decode cX10_orders 93 = .ok (.ireturn, 1) := by decide +kernel
theorem dX10_fills_0 : decode cX10_fills 0 = .ok (.iload_n 3, 1) := by decide +kernel
theorem dX10_fills_1 : decode cX10_fills 1 = .ok (.iload_n 2, 1) := by decide +kernel
theorem dX10_fills_2 : decode cX10_fills 2 = .ok (.if_icmp .eq 18, 3) := by decide +kernel
theorem dX10_fills_5 : decode cX10_fills 5 = .ok (.aload_n 0, 1) := by decide +kernel
theorem dX10_fills_6 : decode cX10_fills 6 = .ok (.iload_n 1, 1) := by decide +kernel
theorem dX10_fills_7 : decode cX10_fills 7 = .ok (.aload_n 0, 1) := by decide +kernel
theorem dX10_fills_8 : decode cX10_fills 8 = .ok (.iload_n 1, 1) := by decide +kernel
theorem dX10_fills_9 : decode cX10_fills 9 = .ok (.bipush 6, 2) := by decide +kernel
theorem dX10_fills_11 : decode cX10_fills 11 = .ok (.iload_n 3, 1) := by decide +kernel
theorem dX10_fills_12 : decode cX10_fills 12 = .ok (.iadd, 1) := by decide +kernel
theorem dX10_fills_13 : decode cX10_fills 13 = .ok (.invokevirtual 190, 3) := by decide +kernel
theorem dX10_fills_16 : decode cX10_fills 16 = .ok (.iload_n 2, 1) := by decide +kernel
theorem dX10_fills_17 : decode cX10_fills 17 = .ok (.invokevirtual 220, 3) := by decide +kernel
theorem dX10_fills_20 : decode cX10_fills 20 = .ok (.return_, 1) := by decide +kernel
theorem dX10_setsCursor_0 : decode cX10_setsCursor 0 = .ok (.aload_n 0, 1) := by decide +kernel
theorem dX10_setsCursor_1 : decode cX10_setsCursor 1 = .ok (.getfield 7, 3) := by decide +kernel
theorem dX10_setsCursor_4 : decode cX10_setsCursor 4 = .ok (.bipush 14, 2) := by decide +kernel
theorem dX10_setsCursor_6 : decode cX10_setsCursor 6 = .ok (.bipush 8, 2) := by decide +kernel
theorem dX10_setsCursor_8 : decode cX10_setsCursor 8 = .ok (.iload_n 1, 1) := by decide +kernel
theorem dX10_setsCursor_9 : decode cX10_setsCursor 9 = .ok (.imul, 1) := by decide +kernel
theorem dX10_setsCursor_10 : decode cX10_setsCursor 10 = .ok (.iadd, 1) := by decide +kernel
theorem dX10_setsCursor_11 : decode cX10_setsCursor 11 = .ok (.iload_n 2, 1) := by decide +kernel
theorem dX10_setsCursor_12 : decode cX10_setsCursor 12 = .ok (.iadd, 1) := by decide +kernel
theorem dX10_setsCursor_13 : decode cX10_setsCursor 13 = .ok (.iload_n 3, 1) := by decide +kernel
theorem dX10_setsCursor_14 : decode cX10_setsCursor 14 = .ok (.iastore, 1) := by decide +kernel
theorem dX10_setsCursor_15 : decode cX10_setsCursor 15 = .ok (.return_, 1) := by decide +kernel
theorem dX10_goes_0 : decode cX10_goes 0 = .ok (.aload_n 0, 1) := by decide +kernel
theorem dX10_goes_1 : decode cX10_goes 1 = .ok (.iload_n 1, 1) := by decide +kernel
theorem dX10_goes_2 : decode cX10_goes 2 = .ok (.bipush 70, 2) := by decide +kernel
theorem dX10_goes_4 : decode cX10_goes 4 = .ok (.iload_n 2, 1) := by decide +kernel
theorem dX10_goes_5 : decode cX10_goes 5 = .ok (.iadd, 1) := by decide +kernel
theorem dX10_goes_6 : decode cX10_goes 6 = .ok (.invokevirtual 190, 3) := by decide +kernel
theorem dX10_goes_9 : decode cX10_goes 9 = .ok (.istore_n 3, 1) := by decide +kernel
theorem dX10_goes_10 : decode cX10_goes 10 = .ok (.aload_n 0, 1) := by decide +kernel
theorem dX10_goes_11 : decode cX10_goes 11 = .ok (.iload_n 1, 1) := by decide +kernel
theorem dX10_goes_12 : decode cX10_goes 12 = .ok (.invokevirtual 232, 3) := by decide +kernel
theorem dX10_goes_15 : decode cX10_goes 15 = .ok (.istore 4, 2) := by decide +kernel
theorem dX10_goes_17 : decode cX10_goes 17 = .ok (.iconst 0, 1) := by decide +kernel
theorem dX10_goes_18 : decode cX10_goes 18 = .ok (.istore 5, 2) := by decide +kernel
theorem dX10_goes_20 : decode cX10_goes 20 = .ok (.iload 5, 2) := by decide +kernel
theorem dX10_goes_22 : decode cX10_goes 22 = .ok (.iload 4, 2) := by decide +kernel
theorem dX10_goes_24 : decode cX10_goes 24 = .ok (.if_icmp .ge 63, 3) := by decide +kernel
theorem dX10_goes_27 : decode cX10_goes 27 = .ok (.aload_n 0, 1) := by decide +kernel
theorem dX10_goes_28 : decode cX10_goes 28 = .ok (.aload_n 0, 1) := by decide +kernel
theorem dX10_goes_29 : decode cX10_goes 29 = .ok (.getfield 31, 3) := by decide +kernel
theorem dX10_goes_32 : decode cX10_goes 32 = .ok (.iload 5, 2) := by decide +kernel
theorem dX10_goes_34 : decode cX10_goes 34 = .ok (.iaload, 1) := by decide +kernel
theorem dX10_goes_35 : decode cX10_goes 35 = .ok (.iconst 2, 1) := by decide +kernel
theorem dX10_goes_36 : decode cX10_goes 36 = .ok (.invokevirtual 226, 3) := by decide +kernel
theorem dX10_goes_39 : decode cX10_goes 39 = .ok (.istore 6, 2) := by decide +kernel
theorem dX10_goes_41 : decode cX10_goes 41 = .ok (.iload 6, 2) := by decide +kernel
theorem dX10_goes_43 : decode cX10_goes 43 = .ok (.iload_n 3, 1) := by decide +kernel
theorem dX10_goes_44 : decode cX10_goes 44 = .ok (.if_icmp .gt 6, 3) := by decide +kernel
theorem dX10_goes_47 : decode cX10_goes 47 = .ok (.goto 34, 3) := by decide +kernel
theorem dX10_goes_50 : decode cX10_goes 50 = .ok (.aload_n 0, 1) := by decide +kernel
theorem dX10_goes_51 : decode cX10_goes 51 = .ok (.iload_n 1, 1) := by decide +kernel
theorem dX10_goes_52 : decode cX10_goes 52 = .ok (.iload_n 3, 1) := by decide +kernel
theorem dX10_goes_53 : decode cX10_goes 53 = .ok (.iload 6, 2) := by decide +kernel
theorem dX10_goes_55 : decode cX10_goes 55 = .ok (.iconst 1, 1) := by decide +kernel
theorem dX10_goes_56 : decode cX10_goes 56 = .ok (.isub, 1) := by decide +kernel
theorem dX10_goes_57 : decode cX10_goes 57 = .ok (.invokevirtual 235, 3) := by decide +kernel
theorem dX10_goes_60 : decode cX10_goes 60 = .ok (.iload 6, 2) := by decide +kernel
theorem dX10_goes_62 : decode cX10_goes 62 = .ok (.iconst 1, 1) := by decide +kernel
theorem dX10_goes_63 : decode cX10_goes 63 = .ok (.isub, 1) := by decide +kernel
theorem dX10_goes_64 : decode cX10_goes 64 = .ok (.istore_n 3, 1) := by decide +kernel
theorem dX10_goes_65 : decode cX10_goes 65 = .ok (.aload_n 0, 1) := by decide +kernel
theorem dX10_goes_66 : decode cX10_goes 66 = .ok (.aload_n 0, 1) := by decide +kernel
theorem dX10_goes_67 : decode cX10_goes 67 = .ok (.getfield 31, 3) := by decide +kernel
theorem dX10_goes_70 : decode cX10_goes 70 = .ok (.iload 5, 2) := by decide +kernel
theorem dX10_goes_72 : decode cX10_goes 72 = .ok (.iaload, 1) := by decide +kernel
theorem dX10_goes_73 : decode cX10_goes 73 = .ok (.iconst 2, 1) := by decide +kernel
theorem dX10_goes_74 : decode cX10_goes 74 = .ok (.iload 6, 2) := by decide +kernel
theorem dX10_goes_76 : decode cX10_goes 76 = .ok (.iconst 1, 1) := by decide +kernel
theorem dX10_goes_77 : decode cX10_goes 77 = .ok (.isub, 1) := by decide +kernel
theorem dX10_goes_78 : decode cX10_goes 78 = .ok (.invokevirtual 238, 3) := by decide +kernel
theorem dX10_goes_81 : decode cX10_goes 81 = .ok (.iinc 5 1, 3) := by decide +kernel
theorem dX10_goes_84 : decode cX10_goes 84 = .ok (.goto (-64), 3) := by decide +kernel
theorem dX10_goes_87 : decode cX10_goes 87 = .ok (.aload_n 0, 1) := by decide +kernel
theorem dX10_goes_88 : decode cX10_goes 88 = .ok (.iload_n 1, 1) := by decide +kernel
theorem dX10_goes_89 : decode cX10_goes 89 = .ok (.iconst 0, 1) := by decide +kernel
theorem dX10_goes_90 : decode cX10_goes 90 = .ok (.invokevirtual 190, 3) := by decide +kernel
theorem dX10_goes_93 : decode cX10_goes 93 = .ok (.iconst 1, 1) := by decide +kernel
theorem dX10_goes_94 : decode cX10_goes 94 = .ok (.isub, 1) := by decide +kernel
theorem dX10_goes_95 : decode cX10_goes 95 = .ok (.istore 5, 2) := by decide +kernel
theorem dX10_goes_97 : decode cX10_goes 97 = .ok (.aload_n 0, 1) := by decide +kernel
theorem dX10_goes_98 : decode cX10_goes 98 = .ok (.iload_n 1, 1) := by decide +kernel
theorem dX10_goes_99 : decode cX10_goes 99 = .ok (.iload_n 3, 1) := by decide +kernel
theorem dX10_goes_100 : decode cX10_goes 100 = .ok (.iload 5, 2) := by decide +kernel
theorem dX10_goes_102 : decode cX10_goes 102 = .ok (.invokevirtual 235, 3) := by decide +kernel
theorem dX10_goes_105 : decode cX10_goes 105 = .ok (.aload_n 0, 1) := by decide +kernel
theorem dX10_goes_106 : decode cX10_goes 106 = .ok (.iload_n 1, 1) := by decide +kernel
theorem dX10_goes_107 : decode cX10_goes 107 = .ok (.iconst 0, 1) := by decide +kernel
theorem dX10_goes_108 : decode cX10_goes 108 = .ok (.iload 5, 2) := by decide +kernel
theorem dX10_goes_110 : decode cX10_goes 110 = .ok (.invokevirtual 194, 3) := by decide +kernel
theorem dX10_goes_113 : decode cX10_goes 113 = .ok (.aload_n 0, 1) := by decide +kernel
theorem dX10_goes_114 : decode cX10_goes 114 = .ok (.iload_n 1, 1) := by decide +kernel
theorem dX10_goes_115 : decode cX10_goes 115 = .ok (.iload_n 2, 1) := by decide +kernel
theorem dX10_goes_116 : decode cX10_goes 116 = .ok (.iconst 1, 1) := by decide +kernel
theorem dX10_goes_117 : decode cX10_goes 117 = .ok (.invokevirtual 223, 3) := by decide +kernel
theorem dX10_goes_120 : decode cX10_goes 120 = .ok (.return_, 1) := by decide +kernel
theorem dX10_membersLine_0 : decode cX10_membersLine 0 = .ok (.aload_n 0, 1) := by decide +kernel
theorem dX10_membersLine_1 : decode cX10_membersLine 1 = .ok (.invokevirtual 121, 3) := by decide +kernel
theorem dX10_membersLine_4 : decode cX10_membersLine 4 = .ok (.ifCond .ne 5, 3) := by decide +kernel
theorem dX10_membersLine_7 : decode cX10_membersLine 7 = .ok (.iconst 0, 1) := by decide +kernel
theorem dX10_membersLine_8 : decode cX10_membersLine 8 = .ok (.ireturn, 1) := by decide +kernel
theorem dX10_membersLine_9 : decode cX10_membersLine 9 = .ok (.iconst 1, 1) := by decide +kernel
theorem dX10_membersLine_10 : decode cX10_membersLine 10 = .ok (.istore_n 2, 1) := by decide +kernel
theorem dX10_membersLine_11 : decode cX10_membersLine 11 = .ok (.iload_n 2, 1) := by decide +kernel
theorem dX10_membersLine_12 : decode cX10_membersLine 12 = .ok (.ifCond .ne 11, 3) := by decide +kernel
theorem dX10_membersLine_15 : decode cX10_membersLine 15 = .ok (.aload_n 0, 1) := by decide +kernel
theorem dX10_membersLine_16 : decode cX10_membersLine 16 = .ok (.getfield 78, 3) := by decide +kernel
theorem dX10_membersLine_19 : decode cX10_membersLine 19 = .ok (.iconst 2, 1) := by decide +kernel
theorem dX10_membersLine_20 : decode cX10_membersLine 20 = .ok (.if_icmp .ne 72, 3) := by decide +kernel
theorem dX10_membersLine_23 : decode cX10_membersLine 23 = .ok (.aload_n 0, 1) := by decide +kernel
theorem dX10_membersLine_24 : decode cX10_membersLine 24 = .ok (.iconst 0, 1) := by decide +kernel
theorem dX10_membersLine_25 : decode cX10_membersLine 25 = .ok (.aload_n 0, 1) := by decide +kernel
theorem dX10_membersLine_26 : decode cX10_membersLine 26 = .ok (.getfield 7, 3) := by decide +kernel
theorem dX10_membersLine_29 : decode cX10_membersLine 29 = .ok (.iconst 1, 1) := by decide +kernel
theorem dX10_membersLine_30 : decode cX10_membersLine 30 = .ok (.iaload, 1) := by decide +kernel
theorem dX10_membersLine_31 : decode cX10_membersLine 31 = .ok (.iconst 1, 1) := by decide +kernel
theorem dX10_membersLine_32 : decode cX10_membersLine 32 = .ok (.isub, 1) := by decide +kernel
theorem dX10_membersLine_33 : decode cX10_membersLine 33 = .ok (.invokevirtual 106, 3) := by decide +kernel
theorem dX10_membersLine_36 : decode cX10_membersLine 36 = .ok (.ifCond .ne 5, 3) := by decide +kernel
theorem dX10_membersLine_39 : decode cX10_membersLine 39 = .ok (.iconst 0, 1) := by decide +kernel
theorem dX10_membersLine_40 : decode cX10_membersLine 40 = .ok (.ireturn, 1) := by decide +kernel
theorem dX10_membersLine_41 : decode cX10_membersLine 41 = .ok (.iload_n 1, 1) := by decide +kernel
theorem dX10_membersLine_42 : decode cX10_membersLine 42 = .ok (.ifCond .eq 18, 3) := by decide +kernel
theorem dX10_membersLine_45 : decode cX10_membersLine 45 = .ok (.aload_n 0, 1) := by decide +kernel
theorem dX10_membersLine_46 : decode cX10_membersLine 46 = .ok (.aload_n 0, 1) := by decide +kernel
theorem dX10_membersLine_47 : decode cX10_membersLine 47 = .ok (.getfield 118, 3) := by decide +kernel
theorem dX10_membersLine_50 : decode cX10_membersLine 50 = .ok (.aload_n 0, 1) := by decide +kernel
theorem dX10_membersLine_51 : decode cX10_membersLine 51 = .ok (.getfield 103, 3) := by decide +kernel
theorem dX10_membersLine_54 : decode cX10_membersLine 54 = .ok (.invokevirtual 125, 3) := by decide +kernel
theorem dX10_membersLine_57 : decode cX10_membersLine 57 = .ok (.goto 30, 3) := by decide +kernel
theorem dX10_membersLine_60 : decode cX10_membersLine 60 = .ok (.aload_n 0, 1) := by decide +kernel
theorem dX10_membersLine_61 : decode cX10_membersLine 61 = .ok (.aload_n 0, 1) := by decide +kernel
theorem dX10_membersLine_62 : decode cX10_membersLine 62 = .ok (.getfield 118, 3) := by decide +kernel
theorem dX10_membersLine_65 : decode cX10_membersLine 65 = .ok (.aload_n 0, 1) := by decide +kernel
theorem dX10_membersLine_66 : decode cX10_membersLine 66 = .ok (.getfield 103, 3) := by decide +kernel
theorem dX10_membersLine_69 : decode cX10_membersLine 69 = .ok (.invokevirtual 129, 3) := by decide +kernel
theorem dX10_membersLine_72 : decode cX10_membersLine 72 = .ok (.ifCond .eq 15, 3) := by decide +kernel
theorem dX10_membersLine_75 : decode cX10_membersLine 75 = .ok (.aload_n 0, 1) := by decide +kernel
theorem dX10_membersLine_76 : decode cX10_membersLine 76 = .ok (.aload_n 0, 1) := by decide +kernel
theorem dX10_membersLine_77 : decode cX10_membersLine 77 = .ok (.getfield 118, 3) := by decide +kernel
theorem dX10_membersLine_80 : decode cX10_membersLine 80 = .ok (.aload_n 0, 1) := by decide +kernel
theorem dX10_membersLine_81 : decode cX10_membersLine 81 = .ok (.getfield 103, 3) := by decide +kernel
theorem dX10_membersLine_84 : decode cX10_membersLine 84 = .ok (.invokevirtual 132, 3) := by decide +kernel
theorem dX10_membersLine_87 : decode cX10_membersLine 87 = .ok (.iconst 0, 1) := by decide +kernel
theorem dX10_membersLine_88 : decode cX10_membersLine 88 = .ok (.istore_n 2, 1) := by decide +kernel
theorem dX10_membersLine_89 : decode cX10_membersLine 89 = .ok (.goto (-78), 3) := by decide +kernel
theorem dX10_membersLine_92 : decode cX10_membersLine 92 = .ok (.iconst 1, 1) := by decide +kernel
theorem dX10_membersLine_93 : decode cX10_membersLine 93 = .ok (.ireturn, 1) := by decide +kernel
theorem dX10_clears_0 : decode cX10_clears 0 = .ok (.aload_n 0, 1) := by decide +kernel
theorem dX10_clears_1 : decode cX10_clears 1 = .ok (.getfield 7, 3) := by decide +kernel
theorem dX10_clears_4 : decode cX10_clears 4 = .ok (.iconst 5, 1) := by decide +kernel
theorem dX10_clears_5 : decode cX10_clears 5 = .ok (.dup2, 1) := by decide +kernel
theorem dX10_clears_6 : decode cX10_clears 6 = .ok (.iaload, 1) := by decide +kernel
theorem dX10_clears_7 : decode cX10_clears 7 = .ok (.iconst 1, 1) := by decide +kernel
theorem dX10_clears_8 : decode cX10_clears 8 = .ok (.iadd, 1) := by decide +kernel
theorem dX10_clears_9 : decode cX10_clears 9 = .ok (.iastore, 1) := by decide +kernel
theorem dX10_clears_10 : decode cX10_clears 10 = .ok (.aload_n 0, 1) := by decide +kernel
theorem dX10_clears_11 : decode cX10_clears 11 = .ok (.iload_n 1, 1) := by decide +kernel
theorem dX10_clears_12 : decode cX10_clears 12 = .ok (.iconst 0, 1) := by decide +kernel
theorem dX10_clears_13 : decode cX10_clears 13 = .ok (.invokevirtual 190, 3) := by decide +kernel
theorem dX10_clears_16 : decode cX10_clears 16 = .ok (.ifCond .le 10, 3) := by decide +kernel
theorem dX10_clears_19 : decode cX10_clears 19 = .ok (.aload_n 0, 1) := by decide +kernel
theorem dX10_clears_20 : decode cX10_clears 20 = .ok (.iload_n 1, 1) := by decide +kernel
theorem dX10_clears_21 : decode cX10_clears 21 = .ok (.iconst (-1), 1) := by decide +kernel
theorem dX10_clears_22 : decode cX10_clears 22 = .ok (.iconst 2, 1) := by decide +kernel
theorem dX10_clears_23 : decode cX10_clears 23 = .ok (.invokevirtual 223, 3) := by decide +kernel
theorem dX10_clears_26 : decode cX10_clears 26 = .ok (.aload_n 0, 1) := by decide +kernel
theorem dX10_clears_27 : decode cX10_clears 27 = .ok (.iload_n 1, 1) := by decide +kernel
theorem dX10_clears_28 : decode cX10_clears 28 = .ok (.iconst 0, 1) := by decide +kernel
theorem dX10_clears_29 : decode cX10_clears 29 = .ok (.iconst 0, 1) := by decide +kernel
theorem dX10_clears_30 : decode cX10_clears 30 = .ok (.invokevirtual 194, 3) := by decide +kernel
theorem dX10_clears_33 : decode cX10_clears 33 = .ok (.aload_n 0, 1) := by decide +kernel
theorem dX10_clears_34 : decode cX10_clears 34 = .ok (.iload_n 1, 1) := by decide +kernel
theorem dX10_clears_35 : decode cX10_clears 35 = .ok (.iconst 1, 1) := by decide +kernel
theorem dX10_clears_36 : decode cX10_clears 36 = .ok (.aload_n 0, 1) := by decide +kernel
theorem dX10_clears_37 : decode cX10_clears 37 = .ok (.iload_n 1, 1) := by decide +kernel
theorem dX10_clears_38 : decode cX10_clears 38 = .ok (.iconst 1, 1) := by decide +kernel
theorem dX10_clears_39 : decode cX10_clears 39 = .ok (.invokevirtual 190, 3) := by decide +kernel
theorem dX10_clears_42 : decode cX10_clears 42 = .ok (.iconst 1, 1) := by decide +kernel
theorem dX10_clears_43 : decode cX10_clears 43 = .ok (.iadd, 1) := by decide +kernel
theorem dX10_clears_44 : decode cX10_clears 44 = .ok (.invokevirtual 194, 3) := by decide +kernel
theorem dX10_clears_47 : decode cX10_clears 47 = .ok (.iconst 0, 1) := by decide +kernel
theorem dX10_clears_48 : decode cX10_clears 48 = .ok (.istore_n 2, 1) := by decide +kernel
theorem dX10_clears_49 : decode cX10_clears 49 = .ok (.iload_n 2, 1) := by decide +kernel
theorem dX10_clears_50 : decode cX10_clears 50 = .ok (.bipush 6, 2) := by decide +kernel
theorem dX10_clears_52 : decode cX10_clears 52 = .ok (.if_icmp .ge 25, 3) := by decide +kernel
theorem dX10_clears_55 : decode cX10_clears 55 = .ok (.aload_n 0, 1) := by decide +kernel
theorem dX10_clears_56 : decode cX10_clears 56 = .ok (.iload_n 2, 1) := by decide +kernel
theorem dX10_clears_57 : decode cX10_clears 57 = .ok (.iload_n 1, 1) := by decide +kernel
theorem dX10_clears_58 : decode cX10_clears 58 = .ok (.invokevirtual 229, 3) := by decide +kernel
theorem dX10_clears_61 : decode cX10_clears 61 = .ok (.ifCond .eq 10, 3) := by decide +kernel
theorem dX10_clears_64 : decode cX10_clears 64 = .ok (.aload_n 0, 1) := by decide +kernel
theorem dX10_clears_65 : decode cX10_clears 65 = .ok (.iload_n 2, 1) := by decide +kernel
theorem dX10_clears_66 : decode cX10_clears 66 = .ok (.iconst 3, 1) := by decide +kernel
theorem dX10_clears_67 : decode cX10_clears 67 = .ok (.iconst 0, 1) := by decide +kernel
theorem dX10_clears_68 : decode cX10_clears 68 = .ok (.invokevirtual 238, 3) := by decide +kernel
theorem dX10_clears_71 : decode cX10_clears 71 = .ok (.iinc 2 1, 3) := by decide +kernel
theorem dX10_clears_74 : decode cX10_clears 74 = .ok (.goto (-25), 3) := by decide +kernel
theorem dX10_clears_77 : decode cX10_clears 77 = .ok (.return_, 1) := by decide +kernel
theorem dX10_clearLine_0 : decode cX10_clearLine 0 = .ok (.aload_n 0, 1) := by decide +kernel
theorem dX10_clearLine_1 : decode cX10_clearLine 1 = .ok (.invokevirtual 121, 3) := by decide +kernel
theorem dX10_clearLine_4 : decode cX10_clearLine 4 = .ok (.ifCond .ne 5, 3) := by decide +kernel
theorem dX10_clearLine_7 : decode cX10_clearLine 7 = .ok (.iconst 0, 1) := by decide +kernel
theorem dX10_clearLine_8 : decode cX10_clearLine 8 = .ok (.ireturn, 1) := by decide +kernel
theorem dX10_clearLine_9 : decode cX10_clearLine 9 = .ok (.aload_n 0, 1) := by decide +kernel
theorem dX10_clearLine_10 : decode cX10_clearLine 10 = .ok (.aload_n 0, 1) := by decide +kernel
theorem dX10_clearLine_11 : decode cX10_clearLine 11 = .ok (.getfield 118, 3) := by decide +kernel
theorem dX10_clearLine_14 : decode cX10_clearLine 14 = .ok (.invokevirtual 135, 3) := by decide +kernel
theorem dX10_clearLine_17 : decode cX10_clearLine 17 = .ok (.iconst 1, 1) := by decide +kernel
theorem dX10_clearLine_18 : decode cX10_clearLine 18 = .ok (.ireturn, 1) := by decide +kernel
theorem dX10_marks_0 : decode cX10_marks 0 = .ok (.aload_n 0, 1) := by decide +kernel
theorem dX10_marks_1 : decode cX10_marks 1 = .ok (.getfield 7, 3) := by decide +kernel
theorem dX10_marks_4 : decode cX10_marks 4 = .ok (.iconst 4, 1) := by decide +kernel
theorem dX10_marks_5 : decode cX10_marks 5 = .ok (.iaload, 1) := by decide +kernel
theorem dX10_marks_6 : decode cX10_marks 6 = .ok (.istore_n 1, 1) := by decide +kernel
theorem dX10_marks_7 : decode cX10_marks 7 = .ok (.aload_n 0, 1) := by decide +kernel
theorem dX10_marks_8 : decode cX10_marks 8 = .ok (.getfield 7, 3) := by decide +kernel
theorem dX10_marks_11 : decode cX10_marks 11 = .ok (.bipush 6, 2) := by decide +kernel
theorem dX10_marks_13 : decode cX10_marks 13 = .ok (.iload_n 1, 1) := by decide +kernel
theorem dX10_marks_14 : decode cX10_marks 14 = .ok (.iadd, 1) := by decide +kernel
theorem dX10_marks_15 : decode cX10_marks 15 = .ok (.aload_n 0, 1) := by decide +kernel
theorem dX10_marks_16 : decode cX10_marks 16 = .ok (.getfield 7, 3) := by decide +kernel
theorem dX10_marks_19 : decode cX10_marks 19 = .ok (.iconst 3, 1) := by decide +kernel
theorem dX10_marks_20 : decode cX10_marks 20 = .ok (.iaload, 1) := by decide +kernel
theorem dX10_marks_21 : decode cX10_marks 21 = .ok (.iastore, 1) := by decide +kernel
theorem dX10_marks_22 : decode cX10_marks 22 = .ok (.aload_n 0, 1) := by decide +kernel
theorem dX10_marks_23 : decode cX10_marks 23 = .ok (.getfield 7, 3) := by decide +kernel
theorem dX10_marks_26 : decode cX10_marks 26 = .ok (.iconst 4, 1) := by decide +kernel
theorem dX10_marks_27 : decode cX10_marks 27 = .ok (.dup2, 1) := by decide +kernel
theorem dX10_marks_28 : decode cX10_marks 28 = .ok (.iaload, 1) := by decide +kernel
theorem dX10_marks_29 : decode cX10_marks 29 = .ok (.iconst 1, 1) := by decide +kernel
theorem dX10_marks_30 : decode cX10_marks 30 = .ok (.iadd, 1) := by decide +kernel
theorem dX10_marks_31 : decode cX10_marks 31 = .ok (.iastore, 1) := by decide +kernel
theorem dX10_marks_32 : decode cX10_marks 32 = .ok (.iload_n 1, 1) := by decide +kernel
theorem dX10_marks_33 : decode cX10_marks 33 = .ok (.ireturn, 1) := by decide +kernel
theorem dX10_markLine_0 : decode cX10_markLine 0 = .ok (.aload_n 0, 1) := by decide +kernel
theorem dX10_markLine_1 : decode cX10_markLine 1 = .ok (.iconst 5, 1) := by decide +kernel
theorem dX10_markLine_2 : decode cX10_markLine 2 = .ok (.aload_n 0, 1) := by decide +kernel
theorem dX10_markLine_3 : decode cX10_markLine 3 = .ok (.getfield 7, 3) := by decide +kernel
theorem dX10_markLine_6 : decode cX10_markLine 6 = .ok (.iconst 4, 1) := by decide +kernel
theorem dX10_markLine_7 : decode cX10_markLine 7 = .ok (.iaload, 1) := by decide +kernel
theorem dX10_markLine_8 : decode cX10_markLine 8 = .ok (.bipush 8, 2) := by decide +kernel
theorem dX10_markLine_10 : decode cX10_markLine 10 = .ok (.if_icmp .ge 7, 3) := by decide +kernel
theorem dX10_markLine_13 : decode cX10_markLine 13 = .ok (.iconst 1, 1) := by decide +kernel
theorem dX10_markLine_14 : decode cX10_markLine 14 = .ok (.goto 4, 3) := by decide +kernel
theorem dX10_markLine_17 : decode cX10_markLine 17 = .ok (.iconst 0, 1) := by decide +kernel
theorem dX10_markLine_18 : decode cX10_markLine 18 = .ok (.invokevirtual 110, 3) := by decide +kernel
theorem dX10_markLine_21 : decode cX10_markLine 21 = .ok (.ifCond .ne 5, 3) := by decide +kernel
theorem dX10_markLine_24 : decode cX10_markLine 24 = .ok (.iconst 0, 1) := by decide +kernel
theorem dX10_markLine_25 : decode cX10_markLine 25 = .ok (.ireturn, 1) := by decide +kernel
theorem dX10_markLine_26 : decode cX10_markLine 26 = .ok (.aload_n 0, 1) := by decide +kernel
theorem dX10_markLine_27 : decode cX10_markLine 27 = .ok (.invokevirtual 138, 3) := by decide +kernel
theorem dX10_markLine_30 : decode cX10_markLine 30 = .ok (.pop, 1) := by decide +kernel
theorem dX10_markLine_31 : decode cX10_markLine 31 = .ok (.iconst 1, 1) := by decide +kernel
theorem dX10_markLine_32 : decode cX10_markLine 32 = .ok (.ireturn, 1) := by decide +kernel
theorem dX10_statement_0 : decode cX10_statement 0 = .ok (.aload_n 0, 1) := by decide +kernel
theorem dX10_statement_1 : decode cX10_statement 1 = .ok (.ldc 141, 2) := by decide +kernel
theorem dX10_statement_3 : decode cX10_statement 3 = .ok (.invokevirtual 143, 3) := by decide +kernel
theorem dX10_statement_6 : decode cX10_statement 6 = .ok (.ifCond .eq 8, 3) := by decide +kernel
theorem dX10_statement_9 : decode cX10_statement 9 = .ok (.aload_n 0, 1) := by decide +kernel
theorem dX10_statement_10 : decode cX10_statement 10 = .ok (.invokevirtual 147, 3) := by decide +kernel
theorem dX10_statement_13 : decode cX10_statement 13 = .ok (.ireturn, 1) := by decide +kernel
theorem dX10_statement_14 : decode cX10_statement 14 = .ok (.aload_n 0, 1) := by decide +kernel
theorem dX10_statement_15 : decode cX10_statement 15 = .ok (.ldc 150, 2) := by decide +kernel
theorem dX10_statement_17 : decode cX10_statement 17 = .ok (.invokevirtual 143, 3) := by decide +kernel
theorem dX10_statement_20 : decode cX10_statement 20 = .ok (.ifCond .eq 9, 3) := by decide +kernel
theorem dX10_statement_23 : decode cX10_statement 23 = .ok (.aload_n 0, 1) := by decide +kernel
theorem dX10_statement_24 : decode cX10_statement 24 = .ok (.iconst 1, 1) := by decide +kernel
theorem dX10_statement_25 : decode cX10_statement 25 = .ok (.invokevirtual 152, 3) := by decide +kernel
theorem dX10_statement_28 : decode cX10_statement 28 = .ok (.ireturn, 1) := by decide +kernel
theorem dX10_statement_29 : decode cX10_statement 29 = .ok (.aload_n 0, 1) := by decide +kernel
theorem dX10_statement_30 : decode cX10_statement 30 = .ok (.ldc 156, 2) := by decide +kernel
theorem dX10_statement_32 : decode cX10_statement 32 = .ok (.invokevirtual 143, 3) := by decide +kernel
theorem dX10_statement_35 : decode cX10_statement 35 = .ok (.ifCond .eq 9, 3) := by decide +kernel
theorem dX10_statement_38 : decode cX10_statement 38 = .ok (.aload_n 0, 1) := by decide +kernel
theorem dX10_statement_39 : decode cX10_statement 39 = .ok (.iconst 0, 1) := by decide +kernel
theorem dX10_statement_40 : decode cX10_statement 40 = .ok (.invokevirtual 152, 3) := by decide +kernel
theorem dX10_statement_43 : decode cX10_statement 43 = .ok (.ireturn, 1) := by decide +kernel
theorem dX10_statement_44 : decode cX10_statement 44 = .ok (.aload_n 0, 1) := by decide +kernel
theorem dX10_statement_45 : decode cX10_statement 45 = .ok (.ldc 158, 2) := by decide +kernel
theorem dX10_statement_47 : decode cX10_statement 47 = .ok (.invokevirtual 143, 3) := by decide +kernel
theorem dX10_statement_50 : decode cX10_statement 50 = .ok (.ifCond .eq 10, 3) := by decide +kernel
theorem dX10_statement_53 : decode cX10_statement 53 = .ok (.aload_n 0, 1) := by decide +kernel
theorem dX10_statement_54 : decode cX10_statement 54 = .ok (.invokevirtual 160, 3) := by decide +kernel
theorem dX10_statement_57 : decode cX10_statement 57 = .ok (.goto 24, 3) := by decide +kernel
theorem dX10_statement_60 : decode cX10_statement 60 = .ok (.aload_n 0, 1) := by decide +kernel
theorem dX10_statement_61 : decode cX10_statement 61 = .ok (.ldc 163, 2) := by decide +kernel
theorem dX10_statement_63 : decode cX10_statement 63 = .ok (.invokevirtual 143, 3) := by decide +kernel
theorem dX10_statement_66 : decode cX10_statement 66 = .ok (.ifCond .eq 10, 3) := by decide +kernel
theorem dX10_statement_69 : decode cX10_statement 69 = .ok (.aload_n 0, 1) := by decide +kernel
theorem dX10_statement_70 : decode cX10_statement 70 = .ok (.invokevirtual 165, 3) := by decide +kernel
theorem dX10_statement_73 : decode cX10_statement 73 = .ok (.goto 8, 3) := by decide +kernel
theorem dX10_statement_76 : decode cX10_statement 76 = .ok (.aload_n 0, 1) := by decide +kernel
theorem dX10_statement_77 : decode cX10_statement 77 = .ok (.iconst 1, 1) := by decide +kernel
theorem dX10_statement_78 : decode cX10_statement 78 = .ok (.invokevirtual 96, 3) := by decide +kernel
theorem dX10_statement_81 : decode cX10_statement 81 = .ok (.ireturn, 1) := by decide +kernel
theorem dX10_copies_0 : decode cX10_copies 0 = .ok (.iconst 0, 1) := by decide +kernel
theorem dX10_copies_1 : decode cX10_copies 1 = .ok (.istore 4, 2) := by decide +kernel
theorem dX10_copies_3 : decode cX10_copies 3 = .ok (.iload 4, 2) := by decide +kernel
theorem dX10_copies_5 : decode cX10_copies 5 = .ok (.sipush 1952, 3) := by decide +kernel
theorem dX10_copies_8 : decode cX10_copies 8 = .ok (.if_icmp .ge 21, 3) := by decide +kernel
theorem dX10_copies_11 : decode cX10_copies 11 = .ok (.aload_n 2, 1) := by decide +kernel
theorem dX10_copies_12 : decode cX10_copies 12 = .ok (.iload_n 3, 1) := by decide +kernel
theorem dX10_copies_13 : decode cX10_copies 13 = .ok (.iload 4, 2) := by decide +kernel
theorem dX10_copies_15 : decode cX10_copies 15 = .ok (.iadd, 1) := by decide +kernel
theorem dX10_copies_16 : decode cX10_copies 16 = .ok (.aload_n 0, 1) := by decide +kernel
theorem dX10_copies_17 : decode cX10_copies 17 = .ok (.iload_n 1, 1) := by decide +kernel
theorem dX10_copies_18 : decode cX10_copies 18 = .ok (.iload 4, 2) := by decide +kernel
theorem dX10_copies_20 : decode cX10_copies 20 = .ok (.iadd, 1) := by decide +kernel
theorem dX10_copies_21 : decode cX10_copies 21 = .ok (.iaload, 1) := by decide +kernel
theorem dX10_copies_22 : decode cX10_copies 22 = .ok (.iastore, 1) := by decide +kernel
theorem dX10_copies_23 : decode cX10_copies 23 = .ok (.iinc 4 1, 3) := by decide +kernel
theorem dX10_copies_26 : decode cX10_copies 26 = .ok (.goto (-23), 3) := by decide +kernel
theorem dX10_copies_29 : decode cX10_copies 29 = .ok (.return_, 1) := by decide +kernel
theorem dX10_parse_0 : decode cX10_parse 0 = .ok (.aload_n 0, 1) := by decide +kernel
theorem dX10_parse_1 : decode cX10_parse 1 = .ok (.iconst 0, 1) := by decide +kernel
theorem dX10_parse_2 : decode cX10_parse 2 = .ok (.putfield 44, 3) := by decide +kernel
theorem dX10_parse_5 : decode cX10_parse 5 = .ok (.aload_n 0, 1) := by decide +kernel
theorem dX10_parse_6 : decode cX10_parse 6 = .ok (.iload_n 1, 1) := by decide +kernel
theorem dX10_parse_7 : decode cX10_parse 7 = .ok (.iconst 0, 1) := by decide +kernel
theorem dX10_parse_8 : decode cX10_parse 8 = .ok (.aload_n 0, 1) := by decide +kernel
theorem dX10_parse_9 : decode cX10_parse 9 = .ok (.getfield 47, 3) := by decide +kernel
theorem dX10_parse_12 : decode cX10_parse 12 = .ok (.invokestatic 68, 3) := by decide +kernel
theorem dX10_parse_15 : decode cX10_parse 15 = .ok (.ifCond .ne 7, 3) := by decide +kernel
theorem dX10_parse_18 : decode cX10_parse 18 = .ok (.iconst 1, 1) := by decide +kernel
theorem dX10_parse_19 : decode cX10_parse 19 = .ok (.goto 4, 3) := by decide +kernel
theorem dX10_parse_22 : decode cX10_parse 22 = .ok (.iconst 0, 1) := by decide +kernel
theorem dX10_parse_23 : decode cX10_parse 23 = .ok (.iconst 1, 1) := by decide +kernel
theorem dX10_parse_24 : decode cX10_parse 24 = .ok (.invokevirtual 168, 3) := by decide +kernel
theorem dX10_parse_27 : decode cX10_parse 27 = .ok (.ifCond .eq 5, 3) := by decide +kernel
theorem dX10_parse_30 : decode cX10_parse 30 = .ok (.iconst 0, 1) := by decide +kernel
theorem dX10_parse_31 : decode cX10_parse 31 = .ok (.ireturn, 1) := by decide +kernel
theorem dX10_parse_32 : decode cX10_parse 32 = .ok (.aload_n 0, 1) := by decide +kernel
theorem dX10_parse_33 : decode cX10_parse 33 = .ok (.iload_n 1, 1) := by decide +kernel
theorem dX10_parse_34 : decode cX10_parse 34 = .ok (.putfield 54, 3) := by decide +kernel
theorem dX10_parse_37 : decode cX10_parse 37 = .ok (.aload_n 0, 1) := by decide +kernel
theorem dX10_parse_38 : decode cX10_parse 38 = .ok (.iconst 0, 1) := by decide +kernel
theorem dX10_parse_39 : decode cX10_parse 39 = .ok (.putfield 47, 3) := by decide +kernel
theorem dX10_parse_42 : decode cX10_parse 42 = .ok (.aload_n 0, 1) := by decide +kernel
theorem dX10_parse_43 : decode cX10_parse 43 = .ok (.iconst 0, 1) := by decide +kernel
theorem dX10_parse_44 : decode cX10_parse 44 = .ok (.putfield 61, 3) := by decide +kernel
theorem dX10_parse_47 : decode cX10_parse 47 = .ok (.aload_n 0, 1) := by decide +kernel
theorem dX10_parse_48 : decode cX10_parse 48 = .ok (.iconst 0, 1) := by decide +kernel
theorem dX10_parse_49 : decode cX10_parse 49 = .ok (.putfield 93, 3) := by decide +kernel
theorem dX10_parse_52 : decode cX10_parse 52 = .ok (.aload_n 0, 1) := by decide +kernel
theorem dX10_parse_53 : decode cX10_parse 53 = .ok (.iconst (-1), 1) := by decide +kernel
theorem dX10_parse_54 : decode cX10_parse 54 = .ok (.putfield 21, 3) := by decide +kernel
theorem dX10_parse_57 : decode cX10_parse 57 = .ok (.aload_n 0, 1) := by decide +kernel
theorem dX10_parse_58 : decode cX10_parse 58 = .ok (.getfield 7, 3) := by decide +kernel
theorem dX10_parse_61 : decode cX10_parse 61 = .ok (.iconst 0, 1) := by decide +kernel
theorem dX10_parse_62 : decode cX10_parse 62 = .ok (.aload_n 0, 1) := by decide +kernel
theorem dX10_parse_63 : decode cX10_parse 63 = .ok (.getfield 25, 3) := by decide +kernel
theorem dX10_parse_66 : decode cX10_parse 66 = .ok (.iconst 0, 1) := by decide +kernel
theorem dX10_parse_67 : decode cX10_parse 67 = .ok (.invokestatic 172, 3) := by decide +kernel
theorem dX10_parse_70 : decode cX10_parse 70 = .ok (.iconst 0, 1) := by decide +kernel
theorem dX10_parse_71 : decode cX10_parse 71 = .ok (.istore_n 2, 1) := by decide +kernel
theorem dX10_parse_72 : decode cX10_parse 72 = .ok (.iload_n 2, 1) := by decide +kernel
theorem dX10_parse_73 : decode cX10_parse 73 = .ok (.sipush 1952, 3) := by decide +kernel
theorem dX10_parse_76 : decode cX10_parse 76 = .ok (.if_icmp .ge 16, 3) := by decide +kernel
theorem dX10_parse_79 : decode cX10_parse 79 = .ok (.aload_n 0, 1) := by decide +kernel
theorem dX10_parse_80 : decode cX10_parse 80 = .ok (.getfield 7, 3) := by decide +kernel
theorem dX10_parse_83 : decode cX10_parse 83 = .ok (.iload_n 2, 1) := by decide +kernel
theorem dX10_parse_84 : decode cX10_parse 84 = .ok (.iconst 0, 1) := by decide +kernel
theorem dX10_parse_85 : decode cX10_parse 85 = .ok (.iastore, 1) := by decide +kernel
theorem dX10_parse_86 : decode cX10_parse 86 = .ok (.iinc 2 1, 3) := by decide +kernel
theorem dX10_parse_89 : decode cX10_parse 89 = .ok (.goto (-17), 3) := by decide +kernel
theorem dX10_parse_92 : decode cX10_parse 92 = .ok (.aload_n 0, 1) := by decide +kernel
theorem dX10_parse_93 : decode cX10_parse 93 = .ok (.invokevirtual 100, 3) := by decide +kernel
theorem dX10_parse_96 : decode cX10_parse 96 = .ok (.aload_n 0, 1) := by decide +kernel
theorem dX10_parse_97 : decode cX10_parse 97 = .ok (.iconst 1, 1) := by decide +kernel
theorem dX10_parse_98 : decode cX10_parse 98 = .ok (.aload_n 0, 1) := by decide +kernel
theorem dX10_parse_99 : decode cX10_parse 99 = .ok (.ldc 176, 2) := by decide +kernel
theorem dX10_parse_101 : decode cX10_parse 101 = .ok (.invokevirtual 143, 3) := by decide +kernel
theorem dX10_parse_104 : decode cX10_parse 104 = .ok (.invokevirtual 110, 3) := by decide +kernel
theorem dX10_parse_107 : decode cX10_parse 107 = .ok (.ifCond .eq 36, 3) := by decide +kernel
theorem dX10_parse_110 : decode cX10_parse 110 = .ok (.aload_n 0, 1) := by decide +kernel
theorem dX10_parse_111 : decode cX10_parse 111 = .ok (.iconst 1, 1) := by decide +kernel
theorem dX10_parse_112 : decode cX10_parse 112 = .ok (.iconst 1, 1) := by decide +kernel
theorem dX10_parse_113 : decode cX10_parse 113 = .ok (.bipush 64, 2) := by decide +kernel
theorem dX10_parse_115 : decode cX10_parse 115 = .ok (.invokevirtual 178, 3) := by decide +kernel
theorem dX10_parse_118 : decode cX10_parse 118 = .ok (.ifCond .eq 25, 3) := by decide +kernel
theorem dX10_parse_121 : decode cX10_parse 121 = .ok (.aload_n 0, 1) := by decide +kernel
theorem dX10_parse_122 : decode cX10_parse 122 = .ok (.iconst 2, 1) := by decide +kernel
theorem dX10_parse_123 : decode cX10_parse 123 = .ok (.iconst 1, 1) := by decide +kernel
theorem dX10_parse_124 : decode cX10_parse 124 = .ok (.bipush 60, 2) := by decide +kernel
theorem dX10_parse_126 : decode cX10_parse 126 = .ok (.invokevirtual 178, 3) := by decide +kernel
theorem dX10_parse_129 : decode cX10_parse 129 = .ok (.ifCond .eq 14, 3) := by decide +kernel
theorem dX10_parse_132 : decode cX10_parse 132 = .ok (.aload_n 0, 1) := by decide +kernel
theorem dX10_parse_133 : decode cX10_parse 133 = .ok (.invokevirtual 181, 3) := by decide +kernel
theorem dX10_parse_136 : decode cX10_parse 136 = .ok (.ifCond .eq 7, 3) := by decide +kernel
theorem dX10_parse_139 : decode cX10_parse 139 = .ok (.iconst 1, 1) := by decide +kernel
theorem dX10_parse_140 : decode cX10_parse 140 = .ok (.goto 4, 3) := by decide +kernel
theorem dX10_parse_143 : decode cX10_parse 143 = .ok (.iconst 0, 1) := by decide +kernel
theorem dX10_parse_144 : decode cX10_parse 144 = .ok (.istore_n 2, 1) := by decide +kernel
theorem dX10_parse_145 : decode cX10_parse 145 = .ok (.iload_n 2, 1) := by decide +kernel
theorem dX10_parse_146 : decode cX10_parse 146 = .ok (.ifCond .eq 33, 3) := by decide +kernel
theorem dX10_parse_149 : decode cX10_parse 149 = .ok (.aload_n 0, 1) := by decide +kernel
theorem dX10_parse_150 : decode cX10_parse 150 = .ok (.getfield 78, 3) := by decide +kernel
theorem dX10_parse_153 : decode cX10_parse 153 = .ok (.ifCond .eq 26, 3) := by decide +kernel
theorem dX10_parse_156 : decode cX10_parse 156 = .ok (.aload_n 0, 1) := by decide +kernel
theorem dX10_parse_157 : decode cX10_parse 157 = .ok (.invokevirtual 184, 3) := by decide +kernel
theorem dX10_parse_160 : decode cX10_parse 160 = .ok (.ifCond .eq 14, 3) := by decide +kernel
theorem dX10_parse_163 : decode cX10_parse 163 = .ok (.aload_n 0, 1) := by decide +kernel
theorem dX10_parse_164 : decode cX10_parse 164 = .ok (.invokevirtual 181, 3) := by decide +kernel
theorem dX10_parse_167 : decode cX10_parse 167 = .ok (.ifCond .eq 7, 3) := by decide +kernel
theorem dX10_parse_170 : decode cX10_parse 170 = .ok (.iconst 1, 1) := by decide +kernel
theorem dX10_parse_171 : decode cX10_parse 171 = .ok (.goto 4, 3) := by decide +kernel
theorem dX10_parse_174 : decode cX10_parse 174 = .ok (.iconst 0, 1) := by decide +kernel
theorem dX10_parse_175 : decode cX10_parse 175 = .ok (.istore_n 2, 1) := by decide +kernel
theorem dX10_parse_176 : decode cX10_parse 176 = .ok (.goto (-31), 3) := by decide +kernel
theorem dX10_parse_179 : decode cX10_parse 179 = .ok (.iload_n 2, 1) := by decide +kernel
theorem dX10_parse_180 : decode cX10_parse 180 = .ok (.ifCond .ne 21, 3) := by decide +kernel
theorem dX10_parse_183 : decode cX10_parse 183 = .ok (.aload_n 0, 1) := by decide +kernel
theorem dX10_parse_184 : decode cX10_parse 184 = .ok (.getfield 25, 3) := by decide +kernel
theorem dX10_parse_187 : decode cX10_parse 187 = .ok (.iconst 0, 1) := by decide +kernel
theorem dX10_parse_188 : decode cX10_parse 188 = .ok (.aload_n 0, 1) := by decide +kernel
theorem dX10_parse_189 : decode cX10_parse 189 = .ok (.getfield 7, 3) := by decide +kernel
theorem dX10_parse_192 : decode cX10_parse 192 = .ok (.iconst 0, 1) := by decide +kernel
theorem dX10_parse_193 : decode cX10_parse 193 = .ok (.invokestatic 172, 3) := by decide +kernel
theorem dX10_parse_196 : decode cX10_parse 196 = .ok (.aload_n 0, 1) := by decide +kernel
theorem dX10_parse_197 : decode cX10_parse 197 = .ok (.getfield 93, 3) := by decide +kernel
theorem dX10_parse_200 : decode cX10_parse 200 = .ok (.ireturn, 1) := by decide +kernel
theorem dX10_parse_201 : decode cX10_parse 201 = .ok (.iconst 0, 1) := by decide +kernel
theorem dX10_parse_202 : decode cX10_parse 202 = .ok (.istore_n 3, 1) := by decide +kernel
theorem dX10_parse_203 : decode cX10_parse 203 = .ok (.iload_n 3, 1) := by decide +kernel
theorem dX10_parse_204 : decode cX10_parse 204 = .ok (.iconst 5, 1) := by decide +kernel
theorem dX10_parse_205 : decode cX10_parse 205 = .ok (.if_icmp .ge 21, 3) := by decide +kernel
theorem dX10_parse_208 : decode cX10_parse 208 = .ok (.aload_n 0, 1) := by decide +kernel
theorem dX10_parse_209 : decode cX10_parse 209 = .ok (.getfield 13, 3) := by decide +kernel
theorem dX10_parse_212 : decode cX10_parse 212 = .ok (.iload_n 3, 1) := by decide +kernel
theorem dX10_parse_213 : decode cX10_parse 213 = .ok (.aload_n 0, 1) := by decide +kernel
theorem dX10_parse_214 : decode cX10_parse 214 = .ok (.getfield 28, 3) := by decide +kernel
theorem dX10_parse_217 : decode cX10_parse 217 = .ok (.iload_n 3, 1) := by decide +kernel
theorem dX10_parse_218 : decode cX10_parse 218 = .ok (.laload, 1) := by decide +kernel
theorem dX10_parse_219 : decode cX10_parse 219 = .ok (.lastore, 1) := by decide +kernel
theorem dX10_parse_220 : decode cX10_parse 220 = .ok (.iinc 3 1, 3) := by decide +kernel
theorem dX10_parse_223 : decode cX10_parse 223 = .ok (.goto (-20), 3) := by decide +kernel
theorem dX10_parse_226 : decode cX10_parse 226 = .ok (.aload_n 0, 1) := by decide +kernel
theorem dX10_parse_227 : decode cX10_parse 227 = .ok (.iconst 0, 1) := by decide +kernel
theorem dX10_parse_228 : decode cX10_parse 228 = .ok (.putfield 187, 3) := by decide +kernel
theorem dX10_parse_231 : decode cX10_parse 231 = .ok (.aload_n 0, 1) := by decide +kernel
theorem dX10_parse_232 : decode cX10_parse 232 = .ok (.getfield 40, 3) := by decide +kernel
theorem dX10_parse_235 : decode cX10_parse 235 = .ok (.iconst 0, 1) := by decide +kernel
theorem dX10_parse_236 : decode cX10_parse 236 = .ok (.iconst 0, 1) := by decide +kernel
theorem dX10_parse_237 : decode cX10_parse 237 = .ok (.bastore, 1) := by decide +kernel
theorem dX10_parse_238 : decode cX10_parse 238 = .ok (.aload_n 0, 1) := by decide +kernel
theorem dX10_parse_239 : decode cX10_parse 239 = .ok (.getfield 40, 3) := by decide +kernel
theorem dX10_parse_242 : decode cX10_parse 242 = .ok (.iconst 1, 1) := by decide +kernel
theorem dX10_parse_243 : decode cX10_parse 243 = .ok (.iconst 0, 1) := by decide +kernel
theorem dX10_parse_244 : decode cX10_parse 244 = .ok (.bastore, 1) := by decide +kernel
theorem dX10_parse_245 : decode cX10_parse 245 = .ok (.iconst 0, 1) := by decide +kernel
theorem dX10_parse_246 : decode cX10_parse 246 = .ok (.ireturn, 1) := by decide +kernel
theorem dX10_errorPosition_0 : decode cX10_errorPosition 0 = .ok (.aload_n 0, 1) := by decide +kernel
theorem dX10_errorPosition_1 : decode cX10_errorPosition 1 = .ok (.iconst 0, 1) := by decide +kernel
theorem dX10_errorPosition_2 : decode cX10_errorPosition 2 = .ok (.putfield 44, 3) := by decide +kernel
theorem dX10_errorPosition_5 : decode cX10_errorPosition 5 = .ok (.aload_n 0, 1) := by decide +kernel
theorem dX10_errorPosition_6 : decode cX10_errorPosition 6 = .ok (.getfield 21, 3) := by decide +kernel
theorem dX10_errorPosition_9 : decode cX10_errorPosition 9 = .ok (.ireturn, 1) := by decide +kernel
theorem dX10_find_0 : decode cX10_find 0 = .ok (.aload_n 0, 1) := by decide +kernel
theorem dX10_find_1 : decode cX10_find 1 = .ok (.iconst 0, 1) := by decide +kernel
theorem dX10_find_2 : decode cX10_find 2 = .ok (.putfield 44, 3) := by decide +kernel
theorem dX10_find_5 : decode cX10_find 5 = .ok (.aload_n 0, 1) := by decide +kernel
theorem dX10_find_6 : decode cX10_find 6 = .ok (.aload_n 0, 1) := by decide +kernel
theorem dX10_find_7 : decode cX10_find 7 = .ok (.getfield 47, 3) := by decide +kernel
theorem dX10_find_10 : decode cX10_find 10 = .ok (.putfield 54, 3) := by decide +kernel
theorem dX10_find_13 : decode cX10_find 13 = .ok (.aload_n 0, 1) := by decide +kernel
theorem dX10_find_14 : decode cX10_find 14 = .ok (.iconst 0, 1) := by decide +kernel
theorem dX10_find_15 : decode cX10_find 15 = .ok (.putfield 47, 3) := by decide +kernel
theorem dX10_find_18 : decode cX10_find 18 = .ok (.aload_n 0, 1) := by decide +kernel
theorem dX10_find_19 : decode cX10_find 19 = .ok (.iconst 0, 1) := by decide +kernel
theorem dX10_find_20 : decode cX10_find 20 = .ok (.putfield 72, 3) := by decide +kernel
theorem dX10_find_23 : decode cX10_find 23 = .ok (.aload_n 0, 1) := by decide +kernel
theorem dX10_find_24 : decode cX10_find 24 = .ok (.iconst 0, 1) := by decide +kernel
theorem dX10_find_25 : decode cX10_find 25 = .ok (.putfield 61, 3) := by decide +kernel
theorem dX10_find_28 : decode cX10_find 28 = .ok (.aload_n 0, 1) := by decide +kernel
theorem dX10_find_29 : decode cX10_find 29 = .ok (.invokevirtual 81, 3) := by decide +kernel
theorem dX10_find_32 : decode cX10_find 32 = .ok (.aload_n 0, 1) := by decide +kernel
theorem dX10_find_33 : decode cX10_find 33 = .ok (.getfield 61, 3) := by decide +kernel
theorem dX10_find_36 : decode cX10_find 36 = .ok (.istore_n 1, 1) := by decide +kernel
theorem dX10_find_37 : decode cX10_find 37 = .ok (.aload_n 0, 1) := by decide +kernel
theorem dX10_find_38 : decode cX10_find 38 = .ok (.aload_n 0, 1) := by decide +kernel
theorem dX10_find_39 : decode cX10_find 39 = .ok (.getfield 61, 3) := by decide +kernel
theorem dX10_find_42 : decode cX10_find 42 = .ok (.invokevirtual 64, 3) := by decide +kernel
theorem dX10_find_45 : decode cX10_find 45 = .ok (.bipush 32, 2) := by decide +kernel
theorem dX10_find_47 : decode cX10_find 47 = .ok (.if_icmp .ne 16, 3) := by decide +kernel
theorem dX10_find_50 : decode cX10_find 50 = .ok (.aload_n 0, 1) := by decide +kernel
theorem dX10_find_51 : decode cX10_find 51 = .ok (.dup, 1) := by decide +kernel
theorem dX10_find_52 : decode cX10_find 52 = .ok (.getfield 61, 3) := by decide +kernel
theorem dX10_find_55 : decode cX10_find 55 = .ok (.iconst 1, 1) := by decide +kernel
theorem dX10_find_56 : decode cX10_find 56 = .ok (.iadd, 1) := by decide +kernel
theorem dX10_find_57 : decode cX10_find 57 = .ok (.putfield 61, 3) := by decide +kernel
theorem dX10_find_60 : decode cX10_find 60 = .ok (.goto (-23), 3) := by decide +kernel
theorem dX10_find_63 : decode cX10_find 63 = .ok (.iload_n 1, 1) := by decide +kernel
theorem dX10_find_64 : decode cX10_find 64 = .ok (.ifCond .eq 20, 3) := by decide +kernel
theorem dX10_find_67 : decode cX10_find 67 = .ok (.iload_n 1, 1) := by decide +kernel
theorem dX10_find_68 : decode cX10_find 68 = .ok (.bipush 8, 2) := by decide +kernel
theorem dX10_find_70 : decode cX10_find 70 = .ok (.if_icmp .gt 14, 3) := by decide +kernel
theorem dX10_find_73 : decode cX10_find 73 = .ok (.aload_n 0, 1) := by decide +kernel
theorem dX10_find_74 : decode cX10_find 74 = .ok (.getfield 61, 3) := by decide +kernel
theorem dX10_find_77 : decode cX10_find 77 = .ok (.aload_n 0, 1) := by decide +kernel
theorem dX10_find_78 : decode cX10_find 78 = .ok (.getfield 54, 3) := by decide +kernel
theorem dX10_find_81 : decode cX10_find 81 = .ok (.if_icmp .ge 7, 3) := by decide +kernel
theorem dX10_find_84 : decode cX10_find 84 = .ok (.iconst (-1), 1) := by decide +kernel
theorem dX10_find_85 : decode cX10_find 85 = .ok (.goto 20, 3) := by decide +kernel
theorem dX10_find_88 : decode cX10_find 88 = .ok (.aload_n 0, 1) := by decide +kernel
theorem dX10_find_89 : decode cX10_find 89 = .ok (.getfield 13, 3) := by decide +kernel
theorem dX10_find_92 : decode cX10_find 92 = .ok (.aload_n 0, 1) := by decide +kernel
theorem dX10_find_93 : decode cX10_find 93 = .ok (.getfield 7, 3) := by decide +kernel
theorem dX10_find_96 : decode cX10_find 96 = .ok (.iconst 0, 1) := by decide +kernel
theorem dX10_find_97 : decode cX10_find 97 = .ok (.iaload, 1) := by decide +kernel
theorem dX10_find_98 : decode cX10_find 98 = .ok (.aload_n 0, 1) := by decide +kernel
theorem dX10_find_99 : decode cX10_find 99 = .ok (.getfield 57, 3) := by decide +kernel
theorem dX10_find_102 : decode cX10_find 102 = .ok (.invokestatic 114, 3) := by decide +kernel
theorem dX10_find_105 : decode cX10_find 105 = .ok (.ireturn, 1) := by decide +kernel
theorem dX10_contentAt_0 : decode cX10_contentAt 0 = .ok (.aload_n 0, 1) := by decide +kernel
theorem dX10_contentAt_1 : decode cX10_contentAt 1 = .ok (.iload_n 1, 1) := by decide +kernel
theorem dX10_contentAt_2 : decode cX10_contentAt 2 = .ok (.invokevirtual 205, 3) := by decide +kernel
theorem dX10_contentAt_5 : decode cX10_contentAt 5 = .ok (.lstore_n 3, 1) := by decide +kernel
theorem dX10_contentAt_6 : decode cX10_contentAt 6 = .ok (.iconst 0, 1) := by decide +kernel
theorem dX10_contentAt_7 : decode cX10_contentAt 7 = .ok (.istore 5, 2) := by decide +kernel
theorem dX10_contentAt_9 : decode cX10_contentAt 9 = .ok (.iload 5, 2) := by decide +kernel
theorem dX10_contentAt_11 : decode cX10_contentAt 11 = .ok (.aload_n 0, 1) := by decide +kernel
theorem dX10_contentAt_12 : decode cX10_contentAt 12 = .ok (.iload_n 1, 1) := by decide +kernel
theorem dX10_contentAt_13 : decode cX10_contentAt 13 = .ok (.iconst 3, 1) := by decide +kernel
theorem dX10_contentAt_14 : decode cX10_contentAt 14 = .ok (.invokevirtual 190, 3) := by decide +kernel
theorem dX10_contentAt_17 : decode cX10_contentAt 17 = .ok (.if_icmp .ge 30, 3) := by decide +kernel
theorem dX10_contentAt_20 : decode cX10_contentAt 20 = .ok (.aload_n 0, 1) := by decide +kernel
theorem dX10_contentAt_21 : decode cX10_contentAt 21 = .ok (.iload_n 1, 1) := by decide +kernel
theorem dX10_contentAt_22 : decode cX10_contentAt 22 = .ok (.iload 5, 2) := by decide +kernel
theorem dX10_contentAt_24 : decode cX10_contentAt 24 = .ok (.iconst 0, 1) := by decide +kernel
theorem dX10_contentAt_25 : decode cX10_contentAt 25 = .ok (.invokevirtual 197, 3) := by decide +kernel
theorem dX10_contentAt_28 : decode cX10_contentAt 28 = .ok (.iload_n 2, 1) := by decide +kernel
theorem dX10_contentAt_29 : decode cX10_contentAt 29 = .ok (.if_icmp .gt 18, 3) := by decide +kernel
theorem dX10_contentAt_32 : decode cX10_contentAt 32 = .ok (.aload_n 0, 1) := by decide +kernel
theorem dX10_contentAt_33 : decode cX10_contentAt 33 = .ok (.lload_n 3, 1) := by decide +kernel
theorem dX10_contentAt_34 : decode cX10_contentAt 34 = .ok (.iload_n 1, 1) := by decide +kernel
theorem dX10_contentAt_35 : decode cX10_contentAt 35 = .ok (.iload 5, 2) := by decide +kernel
theorem dX10_contentAt_37 : decode cX10_contentAt 37 = .ok (.invokevirtual 209, 3) := by decide +kernel
theorem dX10_contentAt_40 : decode cX10_contentAt 40 = .ok (.lstore_n 3, 1) := by decide +kernel
theorem dX10_contentAt_41 : decode cX10_contentAt 41 = .ok (.iinc 5 1, 3) := by decide +kernel
theorem dX10_contentAt_44 : decode cX10_contentAt 44 = .ok (.goto (-35), 3) := by decide +kernel
theorem dX10_contentAt_47 : decode cX10_contentAt 47 = .ok (.lload_n 3, 1) := by decide +kernel
theorem dX10_contentAt_48 : decode cX10_contentAt 48 = .ok (.lreturn, 1) := by decide +kernel
theorem dX10_ones_0 : decode cX10_ones 0 = .ok (.iconst 0, 1) := by decide +kernel
theorem dX10_ones_1 : decode cX10_ones 1 = .ok (.istore_n 2, 1) := by decide +kernel
theorem dX10_ones_2 : decode cX10_ones 2 = .ok (.lload_n 0, 1) := by decide +kernel
theorem dX10_ones_3 : decode cX10_ones 3 = .ok (.lstore_n 3, 1) := by decide +kernel
theorem dX10_ones_4 : decode cX10_ones 4 = .ok (.lload_n 3, 1) := by decide +kernel
theorem dX10_ones_5 : decode cX10_ones 5 = .ok (.lconst 0, 1) := by decide +kernel
theorem dX10_ones_6 : decode cX10_ones 6 = .ok (.lcmp, 1) := by decide +kernel
theorem dX10_ones_7 : decode cX10_ones 7 = .ok (.ifCond .eq 15, 3) := by decide +kernel
theorem dX10_ones_10 : decode cX10_ones 10 = .ok (.iinc 2 1, 3) := by decide +kernel
theorem dX10_ones_13 : decode cX10_ones 13 = .ok (.lload_n 3, 1) := by decide +kernel
theorem dX10_ones_14 : decode cX10_ones 14 = .ok (.lload_n 3, 1) := by decide +kernel
theorem dX10_ones_15 : decode cX10_ones 15 = .ok (.lconst 1, 1) := by decide +kernel
theorem dX10_ones_16 : decode cX10_ones 16 = .ok (.lsub, 1) := by decide +kernel
theorem dX10_ones_17 : decode cX10_ones 17 = .ok (.land, 1) := by decide +kernel
theorem dX10_ones_18 : decode cX10_ones 18 = .ok (.lstore_n 3, 1) := by decide +kernel
theorem dX10_ones_19 : decode cX10_ones 19 = .ok (.goto (-15), 3) := by decide +kernel
theorem dX10_ones_22 : decode cX10_ones 22 = .ok (.iload_n 2, 1) := by decide +kernel
theorem dX10_ones_23 : decode cX10_ones 23 = .ok (.ireturn, 1) := by decide +kernel
theorem dX10_cursorsMany_0 : decode cX10_cursorsMany 0 = .ok (.iconst 0, 1) := by decide +kernel
theorem dX10_cursorsMany_1 : decode cX10_cursorsMany 1 = .ok (.istore_n 1, 1) := by decide +kernel
theorem dX10_cursorsMany_2 : decode cX10_cursorsMany 2 = .ok (.iconst 0, 1) := by decide +kernel
theorem dX10_cursorsMany_3 : decode cX10_cursorsMany 3 = .ok (.istore_n 2, 1) := by decide +kernel
theorem dX10_cursorsMany_4 : decode cX10_cursorsMany 4 = .ok (.iload_n 2, 1) := by decide +kernel
theorem dX10_cursorsMany_5 : decode cX10_cursorsMany 5 = .ok (.bipush 6, 2) := by decide +kernel
theorem dX10_cursorsMany_7 : decode cX10_cursorsMany 7 = .ok (.if_icmp .ge 18, 3) := by decide +kernel
theorem dX10_cursorsMany_10 : decode cX10_cursorsMany 10 = .ok (.iload_n 1, 1) := by decide +kernel
theorem dX10_cursorsMany_11 : decode cX10_cursorsMany 11 = .ok (.aload_n 0, 1) := by decide +kernel
theorem dX10_cursorsMany_12 : decode cX10_cursorsMany 12 = .ok (.iload_n 2, 1) := by decide +kernel
theorem dX10_cursorsMany_13 : decode cX10_cursorsMany 13 = .ok (.iconst 0, 1) := by decide +kernel
theorem dX10_cursorsMany_14 : decode cX10_cursorsMany 14 = .ok (.invokevirtual 226, 3) := by decide +kernel
theorem dX10_cursorsMany_17 : decode cX10_cursorsMany 17 = .ok (.iadd, 1) := by decide +kernel
theorem dX10_cursorsMany_18 : decode cX10_cursorsMany 18 = .ok (.istore_n 1, 1) := by decide +kernel
theorem dX10_cursorsMany_19 : decode cX10_cursorsMany 19 = .ok (.iinc 2 1, 3) := by decide +kernel
theorem dX10_cursorsMany_22 : decode cX10_cursorsMany 22 = .ok (.goto (-18), 3) := by decide +kernel
theorem dX10_cursorsMany_25 : decode cX10_cursorsMany 25 = .ok (.iload_n 1, 1) := by decide +kernel
theorem dX10_cursorsMany_26 : decode cX10_cursorsMany 26 = .ok (.ireturn, 1) := by decide +kernel
theorem dX10_size_0 : decode cX10_size 0 = .ok (.aload_n 0, 1) := by decide +kernel
theorem dX10_size_1 : decode cX10_size 1 = .ok (.iconst 0, 1) := by decide +kernel
theorem dX10_size_2 : decode cX10_size 2 = .ok (.putfield 44, 3) := by decide +kernel
theorem dX10_size_5 : decode cX10_size 5 = .ok (.aload_n 0, 1) := by decide +kernel
theorem dX10_size_6 : decode cX10_size 6 = .ok (.iload_n 1, 1) := by decide +kernel
theorem dX10_size_7 : decode cX10_size 7 = .ok (.iconst 0, 1) := by decide +kernel
theorem dX10_size_8 : decode cX10_size 8 = .ok (.bipush 7, 2) := by decide +kernel
theorem dX10_size_10 : decode cX10_size 10 = .ok (.invokestatic 68, 3) := by decide +kernel
theorem dX10_size_13 : decode cX10_size 13 = .ok (.ifCond .ne 7, 3) := by decide +kernel
theorem dX10_size_16 : decode cX10_size 16 = .ok (.iconst 1, 1) := by decide +kernel
theorem dX10_size_17 : decode cX10_size 17 = .ok (.goto 4, 3) := by decide +kernel
theorem dX10_size_20 : decode cX10_size 20 = .ok (.iconst 0, 1) := by decide +kernel
theorem dX10_size_21 : decode cX10_size 21 = .ok (.iconst 1, 1) := by decide +kernel
theorem dX10_size_22 : decode cX10_size 22 = .ok (.invokevirtual 168, 3) := by decide +kernel
theorem dX10_size_25 : decode cX10_size 25 = .ok (.ifCond .eq 5, 3) := by decide +kernel
theorem dX10_size_28 : decode cX10_size 28 = .ok (.iconst 0, 1) := by decide +kernel
theorem dX10_size_29 : decode cX10_size 29 = .ok (.ireturn, 1) := by decide +kernel
theorem dX10_size_30 : decode cX10_size 30 = .ok (.iload_n 1, 1) := by decide +kernel
theorem dX10_size_31 : decode cX10_size 31 = .ok (.iconst 5, 1) := by decide +kernel
theorem dX10_size_32 : decode cX10_size 32 = .ok (.if_icmp .ge 12, 3) := by decide +kernel
theorem dX10_size_35 : decode cX10_size 35 = .ok (.aload_n 0, 1) := by decide +kernel
theorem dX10_size_36 : decode cX10_size 36 = .ok (.getfield 7, 3) := by decide +kernel
theorem dX10_size_39 : decode cX10_size 39 = .ok (.iload_n 1, 1) := by decide +kernel
theorem dX10_size_40 : decode cX10_size 40 = .ok (.iaload, 1) := by decide +kernel
theorem dX10_size_41 : decode cX10_size 41 = .ok (.goto 34, 3) := by decide +kernel
theorem dX10_size_44 : decode cX10_size 44 = .ok (.iload_n 1, 1) := by decide +kernel
theorem dX10_size_45 : decode cX10_size 45 = .ok (.iconst 5, 1) := by decide +kernel
theorem dX10_size_46 : decode cX10_size 46 = .ok (.if_icmp .ne 10, 3) := by decide +kernel
theorem dX10_size_49 : decode cX10_size 49 = .ok (.aload_n 0, 1) := by decide +kernel
theorem dX10_size_50 : decode cX10_size 50 = .ok (.invokevirtual 241, 3) := by decide +kernel
theorem dX10_size_53 : decode cX10_size 53 = .ok (.goto 22, 3) := by decide +kernel
theorem dX10_size_56 : decode cX10_size 56 = .ok (.iload_n 1, 1) := by decide +kernel
theorem dX10_size_57 : decode cX10_size 57 = .ok (.bipush 6, 2) := by decide +kernel
theorem dX10_size_59 : decode cX10_size 59 = .ok (.if_icmp .ne 12, 3) := by decide +kernel
theorem dX10_size_62 : decode cX10_size 62 = .ok (.aload_n 0, 1) := by decide +kernel
theorem dX10_size_63 : decode cX10_size 63 = .ok (.getfield 7, 3) := by decide +kernel
theorem dX10_size_66 : decode cX10_size 66 = .ok (.iconst 5, 1) := by decide +kernel
theorem dX10_size_67 : decode cX10_size 67 = .ok (.iaload, 1) := by decide +kernel
theorem dX10_size_68 : decode cX10_size 68 = .ok (.goto 7, 3) := by decide +kernel
theorem dX10_size_71 : decode cX10_size 71 = .ok (.aload_n 0, 1) := by decide +kernel
theorem dX10_size_72 : decode cX10_size 72 = .ok (.getfield 187, 3) := by decide +kernel
theorem dX10_size_75 : decode cX10_size 75 = .ok (.ireturn, 1) := by decide +kernel
theorem dX10_marked_0 : decode cX10_marked 0 = .ok (.aload_n 0, 1) := by decide +kernel
theorem dX10_marked_1 : decode cX10_marked 1 = .ok (.iconst 0, 1) := by decide +kernel
theorem dX10_marked_2 : decode cX10_marked 2 = .ok (.putfield 44, 3) := by decide +kernel
theorem dX10_marked_5 : decode cX10_marked 5 = .ok (.iload_n 1, 1) := by decide +kernel
theorem dX10_marked_6 : decode cX10_marked 6 = .ok (.iconst 0, 1) := by decide +kernel
theorem dX10_marked_7 : decode cX10_marked 7 = .ok (.aload_n 0, 1) := by decide +kernel
theorem dX10_marked_8 : decode cX10_marked 8 = .ok (.getfield 7, 3) := by decide +kernel
theorem dX10_marked_11 : decode cX10_marked 11 = .ok (.iconst 4, 1) := by decide +kernel
theorem dX10_marked_12 : decode cX10_marked 12 = .ok (.iaload, 1) := by decide +kernel
theorem dX10_marked_13 : decode cX10_marked 13 = .ok (.iconst 1, 1) := by decide +kernel
theorem dX10_marked_14 : decode cX10_marked 14 = .ok (.isub, 1) := by decide +kernel
theorem dX10_marked_15 : decode cX10_marked 15 = .ok (.invokestatic 68, 3) := by decide +kernel
theorem dX10_marked_18 : decode cX10_marked 18 = .ok (.ifCond .eq 15, 3) := by decide +kernel
theorem dX10_marked_21 : decode cX10_marked 21 = .ok (.aload_n 0, 1) := by decide +kernel
theorem dX10_marked_22 : decode cX10_marked 22 = .ok (.getfield 7, 3) := by decide +kernel
theorem dX10_marked_25 : decode cX10_marked 25 = .ok (.bipush 6, 2) := by decide +kernel
theorem dX10_marked_27 : decode cX10_marked 27 = .ok (.iload_n 1, 1) := by decide +kernel
theorem dX10_marked_28 : decode cX10_marked 28 = .ok (.iadd, 1) := by decide +kernel
theorem dX10_marked_29 : decode cX10_marked 29 = .ok (.iaload, 1) := by decide +kernel
theorem dX10_marked_30 : decode cX10_marked 30 = .ok (.goto 4, 3) := by decide +kernel
theorem dX10_marked_33 : decode cX10_marked 33 = .ok (.iconst (-1), 1) := by decide +kernel
theorem dX10_marked_34 : decode cX10_marked 34 = .ok (.ireturn, 1) := by decide +kernel
theorem dX10_no_0 : decode cX10_no 0 = .ok (.aload_n 0, 1) := by decide +kernel
theorem dX10_no_1 : decode cX10_no 1 = .ok (.iload_n 1, 1) := by decide +kernel
theorem dX10_no_2 : decode cX10_no 2 = .ok (.iconst 0, 1) := by decide +kernel
theorem dX10_no_3 : decode cX10_no 3 = .ok (.iload_n 2, 1) := by decide +kernel
theorem dX10_no_4 : decode cX10_no 4 = .ok (.iconst 1, 1) := by decide +kernel
theorem dX10_no_5 : decode cX10_no 5 = .ok (.isub, 1) := by decide +kernel
theorem dX10_no_6 : decode cX10_no 6 = .ok (.invokestatic 68, 3) := by decide +kernel
theorem dX10_no_9 : decode cX10_no 9 = .ok (.ifCond .ne 7, 3) := by decide +kernel
theorem dX10_no_12 : decode cX10_no 12 = .ok (.iconst 1, 1) := by decide +kernel
theorem dX10_no_13 : decode cX10_no 13 = .ok (.goto 4, 3) := by decide +kernel
theorem dX10_no_16 : decode cX10_no 16 = .ok (.iconst 0, 1) := by decide +kernel
theorem dX10_no_17 : decode cX10_no 17 = .ok (.iconst 1, 1) := by decide +kernel
theorem dX10_no_18 : decode cX10_no 18 = .ok (.invokevirtual 168, 3) := by decide +kernel
theorem dX10_no_21 : decode cX10_no 21 = .ok (.ireturn, 1) := by decide +kernel
theorem dX10_noSet_0 : decode cX10_noSet 0 = .ok (.aload_n 0, 1) := by decide +kernel
theorem dX10_noSet_1 : decode cX10_noSet 1 = .ok (.iconst 0, 1) := by decide +kernel
theorem dX10_noSet_2 : decode cX10_noSet 2 = .ok (.putfield 44, 3) := by decide +kernel
theorem dX10_noSet_5 : decode cX10_noSet 5 = .ok (.aload_n 0, 1) := by decide +kernel
theorem dX10_noSet_6 : decode cX10_noSet 6 = .ok (.iload_n 1, 1) := by decide +kernel
theorem dX10_noSet_7 : decode cX10_noSet 7 = .ok (.aload_n 0, 1) := by decide +kernel
theorem dX10_noSet_8 : decode cX10_noSet 8 = .ok (.getfield 7, 3) := by decide +kernel
theorem dX10_noSet_11 : decode cX10_noSet 11 = .ok (.iconst 0, 1) := by decide +kernel
theorem dX10_noSet_12 : decode cX10_noSet 12 = .ok (.iaload, 1) := by decide +kernel
theorem dX10_noSet_13 : decode cX10_noSet 13 = .ok (.invokevirtual 244, 3) := by decide +kernel
theorem dX10_noSet_16 : decode cX10_noSet 16 = .ok (.ireturn, 1) := by decide +kernel
theorem dX10_noCursor_0 : decode cX10_noCursor 0 = .ok (.aload_n 0, 1) := by decide +kernel
theorem dX10_noCursor_1 : decode cX10_noCursor 1 = .ok (.iconst 0, 1) := by decide +kernel
theorem dX10_noCursor_2 : decode cX10_noCursor 2 = .ok (.putfield 44, 3) := by decide +kernel
theorem dX10_noCursor_5 : decode cX10_noCursor 5 = .ok (.aload_n 0, 1) := by decide +kernel
theorem dX10_noCursor_6 : decode cX10_noCursor 6 = .ok (.iload_n 1, 1) := by decide +kernel
theorem dX10_noCursor_7 : decode cX10_noCursor 7 = .ok (.iconst 0, 1) := by decide +kernel
theorem dX10_noCursor_8 : decode cX10_noCursor 8 = .ok (.iconst 5, 1) := by decide +kernel
theorem dX10_noCursor_9 : decode cX10_noCursor 9 = .ok (.invokestatic 68, 3) := by decide +kernel
theorem dX10_noCursor_12 : decode cX10_noCursor 12 = .ok (.ifCond .eq 12, 3) := by decide +kernel
theorem dX10_noCursor_15 : decode cX10_noCursor 15 = .ok (.aload_n 0, 1) := by decide +kernel
theorem dX10_noCursor_16 : decode cX10_noCursor 16 = .ok (.iload_n 1, 1) := by decide +kernel
theorem dX10_noCursor_17 : decode cX10_noCursor 17 = .ok (.iconst 0, 1) := by decide +kernel
theorem dX10_noCursor_18 : decode cX10_noCursor 18 = .ok (.invokevirtual 226, 3) := by decide +kernel
theorem dX10_noCursor_21 : decode cX10_noCursor 21 = .ok (.ifCond .ne 7, 3) := by decide +kernel
theorem dX10_noCursor_24 : decode cX10_noCursor 24 = .ok (.iconst 1, 1) := by decide +kernel
theorem dX10_noCursor_25 : decode cX10_noCursor 25 = .ok (.goto 4, 3) := by decide +kernel
theorem dX10_noCursor_28 : decode cX10_noCursor 28 = .ok (.iconst 0, 1) := by decide +kernel
theorem dX10_noCursor_29 : decode cX10_noCursor 29 = .ok (.iconst 1, 1) := by decide +kernel
theorem dX10_noCursor_30 : decode cX10_noCursor 30 = .ok (.invokevirtual 168, 3) := by decide +kernel
theorem dX10_noCursor_33 : decode cX10_noCursor 33 = .ok (.ireturn, 1) := by decide +kernel
theorem dX10_openOn_0 : decode cX10_openOn 0 = .ok (.iconst 0, 1) := by decide +kernel
theorem dX10_openOn_1 : decode cX10_openOn 1 = .ok (.istore_n 2, 1) := by decide +kernel
theorem dX10_openOn_2 : decode cX10_openOn 2 = .ok (.iconst 0, 1) := by decide +kernel
theorem dX10_openOn_3 : decode cX10_openOn 3 = .ok (.istore_n 3, 1) := by decide +kernel
theorem dX10_openOn_4 : decode cX10_openOn 4 = .ok (.iload_n 3, 1) := by decide +kernel
theorem dX10_openOn_5 : decode cX10_openOn 5 = .ok (.bipush 6, 2) := by decide +kernel
theorem dX10_openOn_7 : decode cX10_openOn 7 = .ok (.if_icmp .ge 26, 3) := by decide +kernel
theorem dX10_openOn_10 : decode cX10_openOn 10 = .ok (.iload_n 2, 1) := by decide +kernel
theorem dX10_openOn_11 : decode cX10_openOn 11 = .ok (.aload_n 0, 1) := by decide +kernel
theorem dX10_openOn_12 : decode cX10_openOn 12 = .ok (.iload_n 3, 1) := by decide +kernel
theorem dX10_openOn_13 : decode cX10_openOn 13 = .ok (.iload_n 1, 1) := by decide +kernel
theorem dX10_openOn_14 : decode cX10_openOn 14 = .ok (.invokevirtual 229, 3) := by decide +kernel
theorem dX10_openOn_17 : decode cX10_openOn 17 = .ok (.ifCond .eq 7, 3) := by decide +kernel
theorem dX10_openOn_20 : decode cX10_openOn 20 = .ok (.iconst 1, 1) := by decide +kernel
theorem dX10_openOn_21 : decode cX10_openOn 21 = .ok (.goto 4, 3) := by decide +kernel
theorem dX10_openOn_24 : decode cX10_openOn 24 = .ok (.iconst 0, 1) := by decide +kernel
theorem dX10_openOn_25 : decode cX10_openOn 25 = .ok (.iadd, 1) := by decide +kernel
theorem dX10_openOn_26 : decode cX10_openOn 26 = .ok (.istore_n 2, 1) := by decide +kernel
theorem dX10_openOn_27 : decode cX10_openOn 27 = .ok (.iinc 3 1, 3) := by decide +kernel
theorem dX10_openOn_30 : decode cX10_openOn 30 = .ok (.goto (-26), 3) := by decide +kernel
theorem dX10_openOn_33 : decode cX10_openOn 33 = .ok (.iload_n 2, 1) := by decide +kernel
theorem dX10_openOn_34 : decode cX10_openOn 34 = .ok (.ireturn, 1) := by decide +kernel
theorem dX10_set_0 : decode cX10_set 0 = .ok (.aload_n 0, 1) := by decide +kernel
theorem dX10_set_1 : decode cX10_set 1 = .ok (.iload_n 1, 1) := by decide +kernel
theorem dX10_set_2 : decode cX10_set 2 = .ok (.invokevirtual 247, 3) := by decide +kernel
theorem dX10_set_5 : decode cX10_set 5 = .ok (.ifCond .ne 25, 3) := by decide +kernel
theorem dX10_set_8 : decode cX10_set 8 = .ok (.aload_n 0, 1) := by decide +kernel
theorem dX10_set_9 : decode cX10_set 9 = .ok (.iload_n 2, 1) := by decide +kernel
theorem dX10_set_10 : decode cX10_set 10 = .ok (.iconst 0, 1) := by decide +kernel
theorem dX10_set_11 : decode cX10_set 11 = .ok (.iconst 4, 1) := by decide +kernel
theorem dX10_set_12 : decode cX10_set 12 = .ok (.invokestatic 68, 3) := by decide +kernel
theorem dX10_set_15 : decode cX10_set 15 = .ok (.ifCond .ne 7, 3) := by decide +kernel
theorem dX10_set_18 : decode cX10_set 18 = .ok (.iconst 1, 1) := by decide +kernel
theorem dX10_set_19 : decode cX10_set 19 = .ok (.goto 4, 3) := by decide +kernel
theorem dX10_set_22 : decode cX10_set 22 = .ok (.iconst 0, 1) := by decide +kernel
theorem dX10_set_23 : decode cX10_set 23 = .ok (.iconst 2, 1) := by decide +kernel
theorem dX10_set_24 : decode cX10_set 24 = .ok (.invokevirtual 168, 3) := by decide +kernel
theorem dX10_set_27 : decode cX10_set 27 = .ok (.ifCond .eq 5, 3) := by decide +kernel
theorem dX10_set_30 : decode cX10_set 30 = .ok (.iconst 0, 1) := by decide +kernel
theorem dX10_set_31 : decode cX10_set 31 = .ok (.ireturn, 1) := by decide +kernel
theorem dX10_set_32 : decode cX10_set 32 = .ok (.iload_n 2, 1) := by decide +kernel
theorem dX10_set_33 : decode cX10_set 33 = .ok (.iconst 4, 1) := by decide +kernel
theorem dX10_set_34 : decode cX10_set 34 = .ok (.if_icmp .ne 11, 3) := by decide +kernel
theorem dX10_set_37 : decode cX10_set 37 = .ok (.aload_n 0, 1) := by decide +kernel
theorem dX10_set_38 : decode cX10_set 38 = .ok (.iload_n 1, 1) := by decide +kernel
theorem dX10_set_39 : decode cX10_set 39 = .ok (.invokevirtual 250, 3) := by decide +kernel
theorem dX10_set_42 : decode cX10_set 42 = .ok (.goto 9, 3) := by decide +kernel
theorem dX10_set_45 : decode cX10_set 45 = .ok (.aload_n 0, 1) := by decide +kernel
theorem dX10_set_46 : decode cX10_set 46 = .ok (.iload_n 1, 1) := by decide +kernel
theorem dX10_set_47 : decode cX10_set 47 = .ok (.iload_n 2, 1) := by decide +kernel
theorem dX10_set_48 : decode cX10_set 48 = .ok (.invokevirtual 190, 3) := by decide +kernel
theorem dX10_set_51 : decode cX10_set 51 = .ok (.ireturn, 1) := by decide +kernel
theorem dX10_isInside_0 : decode cX10_isInside 0 = .ok (.iload_n 1, 1) := by decide +kernel
theorem dX10_isInside_1 : decode cX10_isInside 1 = .ok (.iconst 0, 1) := by decide +kernel
theorem dX10_isInside_2 : decode cX10_isInside 2 = .ok (.aload_n 0, 1) := by decide +kernel
theorem dX10_isInside_3 : decode cX10_isInside 3 = .ok (.getfield 7, 3) := by decide +kernel
theorem dX10_isInside_6 : decode cX10_isInside 6 = .ok (.iconst 1, 1) := by decide +kernel
theorem dX10_isInside_7 : decode cX10_isInside 7 = .ok (.iaload, 1) := by decide +kernel
theorem dX10_isInside_8 : decode cX10_isInside 8 = .ok (.iconst 1, 1) := by decide +kernel
theorem dX10_isInside_9 : decode cX10_isInside 9 = .ok (.isub, 1) := by decide +kernel
theorem dX10_isInside_10 : decode cX10_isInside 10 = .ok (.invokestatic 68, 3) := by decide +kernel
theorem dX10_isInside_13 : decode cX10_isInside 13 = .ok (.ireturn, 1) := by decide +kernel
theorem dX10_cell_0 : decode cX10_cell 0 = .ok (.aload_n 0, 1) := by decide +kernel
theorem dX10_cell_1 : decode cX10_cell 1 = .ok (.iload_n 1, 1) := by decide +kernel
theorem dX10_cell_2 : decode cX10_cell 2 = .ok (.invokevirtual 247, 3) := by decide +kernel
theorem dX10_cell_5 : decode cX10_cell 5 = .ok (.ifCond .ne 24, 3) := by decide +kernel
theorem dX10_cell_8 : decode cX10_cell 8 = .ok (.aload_n 0, 1) := by decide +kernel
theorem dX10_cell_9 : decode cX10_cell 9 = .ok (.aload_n 0, 1) := by decide +kernel
theorem dX10_cell_10 : decode cX10_cell 10 = .ok (.iload_n 2, 1) := by decide +kernel
theorem dX10_cell_11 : decode cX10_cell 11 = .ok (.invokevirtual 253, 3) := by decide +kernel
theorem dX10_cell_14 : decode cX10_cell 14 = .ok (.ifCond .ne 7, 3) := by decide +kernel
theorem dX10_cell_17 : decode cX10_cell 17 = .ok (.iconst 1, 1) := by decide +kernel
theorem dX10_cell_18 : decode cX10_cell 18 = .ok (.goto 4, 3) := by decide +kernel
theorem dX10_cell_21 : decode cX10_cell 21 = .ok (.iconst 0, 1) := by decide +kernel
theorem dX10_cell_22 : decode cX10_cell 22 = .ok (.iconst 2, 1) := by decide +kernel
theorem dX10_cell_23 : decode cX10_cell 23 = .ok (.invokevirtual 168, 3) := by decide +kernel
theorem dX10_cell_26 : decode cX10_cell 26 = .ok (.ifCond .eq 5, 3) := by decide +kernel
theorem dX10_cell_29 : decode cX10_cell 29 = .ok (.iconst 0, 1) := by decide +kernel
theorem dX10_cell_30 : decode cX10_cell 30 = .ok (.ireturn, 1) := by decide +kernel
theorem dX10_cell_31 : decode cX10_cell 31 = .ok (.aload_n 0, 1) := by decide +kernel
theorem dX10_cell_32 : decode cX10_cell 32 = .ok (.iload_n 1, 1) := by decide +kernel
theorem dX10_cell_33 : decode cX10_cell 33 = .ok (.iload_n 3, 1) := by decide +kernel
theorem dX10_cell_34 : decode cX10_cell 34 = .ok (.ifCond .eq 8, 3) := by decide +kernel
theorem dX10_cell_37 : decode cX10_cell 37 = .ok (.bipush 70, 2) := by decide +kernel
theorem dX10_cell_39 : decode cX10_cell 39 = .ok (.goto 5, 3) := by decide +kernel
theorem dX10_cell_42 : decode cX10_cell 42 = .ok (.bipush 6, 2) := by decide +kernel
theorem dX10_cell_44 : decode cX10_cell 44 = .ok (.iload_n 2, 1) := by decide +kernel
theorem dX10_cell_45 : decode cX10_cell 45 = .ok (.iadd, 1) := by decide +kernel
theorem dX10_cell_46 : decode cX10_cell 46 = .ok (.invokevirtual 190, 3) := by decide +kernel
theorem dX10_cell_49 : decode cX10_cell 49 = .ok (.ireturn, 1) := by decide +kernel
theorem dX10_place_0 : decode cX10_place 0 = .ok (.aload_n 0, 1) := by decide +kernel
theorem dX10_place_1 : decode cX10_place 1 = .ok (.iload_n 1, 1) := by decide +kernel
theorem dX10_place_2 : decode cX10_place 2 = .ok (.invokevirtual 247, 3) := by decide +kernel
theorem dX10_place_5 : decode cX10_place 5 = .ok (.ifCond .eq 7, 3) := by decide +kernel
theorem dX10_place_8 : decode cX10_place 8 = .ok (.iconst 0, 1) := by decide +kernel
theorem dX10_place_9 : decode cX10_place 9 = .ok (.goto 33, 3) := by decide +kernel
theorem dX10_place_12 : decode cX10_place 12 = .ok (.aload_n 0, 1) := by decide +kernel
theorem dX10_place_13 : decode cX10_place 13 = .ok (.iload_n 2, 1) := by decide +kernel
theorem dX10_place_14 : decode cX10_place 14 = .ok (.invokevirtual 253, 3) := by decide +kernel
theorem dX10_place_17 : decode cX10_place 17 = .ok (.ifCond .eq 24, 3) := by decide +kernel
theorem dX10_place_20 : decode cX10_place 20 = .ok (.aload_n 0, 1) := by decide +kernel
theorem dX10_place_21 : decode cX10_place 21 = .ok (.iload_n 1, 1) := by decide +kernel
theorem dX10_place_22 : decode cX10_place 22 = .ok (.iload_n 2, 1) := by decide +kernel
theorem dX10_place_23 : decode cX10_place 23 = .ok (.invokevirtual 129, 3) := by decide +kernel
theorem dX10_place_26 : decode cX10_place 26 = .ok (.ifCond .eq 15, 3) := by decide +kernel
theorem dX10_place_29 : decode cX10_place 29 = .ok (.aload_n 0, 1) := by decide +kernel
theorem dX10_place_30 : decode cX10_place 30 = .ok (.iload_n 1, 1) := by decide +kernel
theorem dX10_place_31 : decode cX10_place 31 = .ok (.bipush 70, 2) := by decide +kernel
theorem dX10_place_33 : decode cX10_place 33 = .ok (.iload_n 2, 1) := by decide +kernel
theorem dX10_place_34 : decode cX10_place 34 = .ok (.iadd, 1) := by decide +kernel
theorem dX10_place_35 : decode cX10_place 35 = .ok (.invokevirtual 190, 3) := by decide +kernel
theorem dX10_place_38 : decode cX10_place 38 = .ok (.goto 4, 3) := by decide +kernel
theorem dX10_place_41 : decode cX10_place 41 = .ok (.iconst (-1), 1) := by decide +kernel
theorem dX10_place_42 : decode cX10_place 42 = .ok (.ireturn, 1) := by decide +kernel
theorem dX10_stampOf_0 : decode cX10_stampOf 0 = .ok (.aload_n 0, 1) := by decide +kernel
theorem dX10_stampOf_1 : decode cX10_stampOf 1 = .ok (.iload_n 1, 1) := by decide +kernel
theorem dX10_stampOf_2 : decode cX10_stampOf 2 = .ok (.invokevirtual 247, 3) := by decide +kernel
theorem dX10_stampOf_5 : decode cX10_stampOf 5 = .ok (.ifCond .eq 7, 3) := by decide +kernel
theorem dX10_stampOf_8 : decode cX10_stampOf 8 = .ok (.iconst 0, 1) := by decide +kernel
theorem dX10_stampOf_9 : decode cX10_stampOf 9 = .ok (.goto 34, 3) := by decide +kernel
theorem dX10_stampOf_12 : decode cX10_stampOf 12 = .ok (.aload_n 0, 1) := by decide +kernel
theorem dX10_stampOf_13 : decode cX10_stampOf 13 = .ok (.iload_n 2, 1) := by decide +kernel
theorem dX10_stampOf_14 : decode cX10_stampOf 14 = .ok (.invokevirtual 253, 3) := by decide +kernel
theorem dX10_stampOf_17 : decode cX10_stampOf 17 = .ok (.ifCond .eq 25, 3) := by decide +kernel
theorem dX10_stampOf_20 : decode cX10_stampOf 20 = .ok (.aload_n 0, 1) := by decide +kernel
theorem dX10_stampOf_21 : decode cX10_stampOf 21 = .ok (.iload_n 1, 1) := by decide +kernel
theorem dX10_stampOf_22 : decode cX10_stampOf 22 = .ok (.iload_n 2, 1) := by decide +kernel
theorem dX10_stampOf_23 : decode cX10_stampOf 23 = .ok (.invokevirtual 129, 3) := by decide +kernel
theorem dX10_stampOf_26 : decode cX10_stampOf 26 = .ok (.ifCond .eq 16, 3) := by decide +kernel
theorem dX10_stampOf_29 : decode cX10_stampOf 29 = .ok (.aload_n 0, 1) := by decide +kernel
theorem dX10_stampOf_30 : decode cX10_stampOf 30 = .ok (.iload_n 1, 1) := by decide +kernel
theorem dX10_stampOf_31 : decode cX10_stampOf 31 = .ok (.sipush 134, 3) := by decide +kernel
theorem dX10_stampOf_34 : decode cX10_stampOf 34 = .ok (.iload_n 2, 1) := by decide +kernel
theorem dX10_stampOf_35 : decode cX10_stampOf 35 = .ok (.iadd, 1) := by decide +kernel
theorem dX10_stampOf_36 : decode cX10_stampOf 36 = .ok (.invokevirtual 190, 3) := by decide +kernel
theorem dX10_stampOf_39 : decode cX10_stampOf 39 = .ok (.goto 4, 3) := by decide +kernel
theorem dX10_stampOf_42 : decode cX10_stampOf 42 = .ok (.iconst (-1), 1) := by decide +kernel
theorem dX10_stampOf_43 : decode cX10_stampOf 43 = .ok (.ireturn, 1) := by decide +kernel
theorem dX10_event_0 : decode cX10_event 0 = .ok (.aload_n 0, 1) := by decide +kernel
theorem dX10_event_1 : decode cX10_event 1 = .ok (.iload_n 1, 1) := by decide +kernel
theorem dX10_event_2 : decode cX10_event 2 = .ok (.invokevirtual 247, 3) := by decide +kernel
theorem dX10_event_5 : decode cX10_event 5 = .ok (.ifCond .ne 25, 3) := by decide +kernel
theorem dX10_event_8 : decode cX10_event 8 = .ok (.aload_n 0, 1) := by decide +kernel
theorem dX10_event_9 : decode cX10_event 9 = .ok (.iload_n 3, 1) := by decide +kernel
theorem dX10_event_10 : decode cX10_event 10 = .ok (.iconst 0, 1) := by decide +kernel
theorem dX10_event_11 : decode cX10_event 11 = .ok (.iconst 2, 1) := by decide +kernel
theorem dX10_event_12 : decode cX10_event 12 = .ok (.invokestatic 68, 3) := by decide +kernel
theorem dX10_event_15 : decode cX10_event 15 = .ok (.ifCond .ne 7, 3) := by decide +kernel
theorem dX10_event_18 : decode cX10_event 18 = .ok (.iconst 1, 1) := by decide +kernel
theorem dX10_event_19 : decode cX10_event 19 = .ok (.goto 4, 3) := by decide +kernel
theorem dX10_event_22 : decode cX10_event 22 = .ok (.iconst 0, 1) := by decide +kernel
theorem dX10_event_23 : decode cX10_event 23 = .ok (.iconst 2, 1) := by decide +kernel
theorem dX10_event_24 : decode cX10_event 24 = .ok (.invokevirtual 168, 3) := by decide +kernel
theorem dX10_event_27 : decode cX10_event 27 = .ok (.ifCond .eq 5, 3) := by decide +kernel
theorem dX10_event_30 : decode cX10_event 30 = .ok (.iconst 0, 1) := by decide +kernel
theorem dX10_event_31 : decode cX10_event 31 = .ok (.ireturn, 1) := by decide +kernel
theorem dX10_event_32 : decode cX10_event 32 = .ok (.iload_n 2, 1) := by decide +kernel
theorem dX10_event_33 : decode cX10_event 33 = .ok (.iconst 0, 1) := by decide +kernel
theorem dX10_event_34 : decode cX10_event 34 = .ok (.aload_n 0, 1) := by decide +kernel
theorem dX10_event_35 : decode cX10_event 35 = .ok (.iload_n 1, 1) := by decide +kernel
theorem dX10_event_36 : decode cX10_event 36 = .ok (.iconst 3, 1) := by decide +kernel
theorem dX10_event_37 : decode cX10_event 37 = .ok (.invokevirtual 190, 3) := by decide +kernel
theorem dX10_event_40 : decode cX10_event 40 = .ok (.iconst 1, 1) := by decide +kernel
theorem dX10_event_41 : decode cX10_event 41 = .ok (.isub, 1) := by decide +kernel
theorem dX10_event_42 : decode cX10_event 42 = .ok (.invokestatic 68, 3) := by decide +kernel
theorem dX10_event_45 : decode cX10_event 45 = .ok (.ifCond .eq 13, 3) := by decide +kernel
theorem dX10_event_48 : decode cX10_event 48 = .ok (.aload_n 0, 1) := by decide +kernel
theorem dX10_event_49 : decode cX10_event 49 = .ok (.iload_n 1, 1) := by decide +kernel
theorem dX10_event_50 : decode cX10_event 50 = .ok (.iload_n 2, 1) := by decide +kernel
theorem dX10_event_51 : decode cX10_event 51 = .ok (.iload_n 3, 1) := by decide +kernel
theorem dX10_event_52 : decode cX10_event 52 = .ok (.invokevirtual 197, 3) := by decide +kernel
theorem dX10_event_55 : decode cX10_event 55 = .ok (.goto 4, 3) := by decide +kernel
theorem dX10_event_58 : decode cX10_event 58 = .ok (.iconst (-1), 1) := by decide +kernel
theorem dX10_event_59 : decode cX10_event 59 = .ok (.ireturn, 1) := by decide +kernel
theorem dX10_noStamp_0 : decode cX10_noStamp 0 = .ok (.aload_n 0, 1) := by decide +kernel
theorem dX10_noStamp_1 : decode cX10_noStamp 1 = .ok (.iload_n 2, 1) := by decide +kernel
theorem dX10_noStamp_2 : decode cX10_noStamp 2 = .ok (.aload_n 0, 1) := by decide +kernel
theorem dX10_noStamp_3 : decode cX10_noStamp 3 = .ok (.iload_n 1, 1) := by decide +kernel
theorem dX10_noStamp_4 : decode cX10_noStamp 4 = .ok (.iconst 2, 1) := by decide +kernel
theorem dX10_noStamp_5 : decode cX10_noStamp 5 = .ok (.invokevirtual 190, 3) := by decide +kernel
theorem dX10_noStamp_8 : decode cX10_noStamp 8 = .ok (.aload_n 0, 1) := by decide +kernel
theorem dX10_noStamp_9 : decode cX10_noStamp 9 = .ok (.getfield 7, 3) := by decide +kernel
theorem dX10_noStamp_12 : decode cX10_noStamp 12 = .ok (.iconst 3, 1) := by decide +kernel
theorem dX10_noStamp_13 : decode cX10_noStamp 13 = .ok (.iaload, 1) := by decide +kernel
theorem dX10_noStamp_14 : decode cX10_noStamp 14 = .ok (.invokestatic 68, 3) := by decide +kernel
theorem dX10_noStamp_17 : decode cX10_noStamp 17 = .ok (.ifCond .ne 7, 3) := by decide +kernel
theorem dX10_noStamp_20 : decode cX10_noStamp 20 = .ok (.iconst 1, 1) := by decide +kernel
theorem dX10_noStamp_21 : decode cX10_noStamp 21 = .ok (.goto 4, 3) := by decide +kernel
theorem dX10_noStamp_24 : decode cX10_noStamp 24 = .ok (.iconst 0, 1) := by decide +kernel
theorem dX10_noStamp_25 : decode cX10_noStamp 25 = .ok (.iconst 2, 1) := by decide +kernel
theorem dX10_noStamp_26 : decode cX10_noStamp 26 = .ok (.invokevirtual 168, 3) := by decide +kernel
theorem dX10_noStamp_29 : decode cX10_noStamp 29 = .ok (.ireturn, 1) := by decide +kernel
theorem dX10_at_0 : decode cX10_at 0 = .ok (.aload_n 0, 1) := by decide +kernel
theorem dX10_at_1 : decode cX10_at 1 = .ok (.iload_n 1, 1) := by decide +kernel
theorem dX10_at_2 : decode cX10_at 2 = .ok (.invokevirtual 247, 3) := by decide +kernel
theorem dX10_at_5 : decode cX10_at 5 = .ok (.ifCond .ne 12, 3) := by decide +kernel
theorem dX10_at_8 : decode cX10_at 8 = .ok (.aload_n 0, 1) := by decide +kernel
theorem dX10_at_9 : decode cX10_at 9 = .ok (.iload_n 1, 1) := by decide +kernel
theorem dX10_at_10 : decode cX10_at 10 = .ok (.iload_n 2, 1) := by decide +kernel
theorem dX10_at_11 : decode cX10_at 11 = .ok (.invokevirtual 256, 3) := by decide +kernel
theorem dX10_at_14 : decode cX10_at 14 = .ok (.ifCond .eq 7, 3) := by decide +kernel
theorem dX10_at_17 : decode cX10_at 17 = .ok (.lconst 0, 1) := by decide +kernel
theorem dX10_at_18 : decode cX10_at 18 = .ok (.goto 9, 3) := by decide +kernel
theorem dX10_at_21 : decode cX10_at 21 = .ok (.aload_n 0, 1) := by decide +kernel
theorem dX10_at_22 : decode cX10_at 22 = .ok (.iload_n 1, 1) := by decide +kernel
theorem dX10_at_23 : decode cX10_at 23 = .ok (.iload_n 2, 1) := by decide +kernel
theorem dX10_at_24 : decode cX10_at 24 = .ok (.invokevirtual 259, 3) := by decide +kernel
theorem dX10_at_27 : decode cX10_at 27 = .ok (.lreturn, 1) := by decide +kernel
theorem dX10_differs_0 : decode cX10_differs 0 = .ok (.aload_n 0, 1) := by decide +kernel
theorem dX10_differs_1 : decode cX10_differs 1 = .ok (.iload_n 1, 1) := by decide +kernel
theorem dX10_differs_2 : decode cX10_differs 2 = .ok (.invokevirtual 247, 3) := by decide +kernel
theorem dX10_differs_5 : decode cX10_differs 5 = .ok (.ifCond .ne 21, 3) := by decide +kernel
theorem dX10_differs_8 : decode cX10_differs 8 = .ok (.aload_n 0, 1) := by decide +kernel
theorem dX10_differs_9 : decode cX10_differs 9 = .ok (.iload_n 1, 1) := by decide +kernel
theorem dX10_differs_10 : decode cX10_differs 10 = .ok (.iload_n 2, 1) := by decide +kernel
theorem dX10_differs_11 : decode cX10_differs 11 = .ok (.invokevirtual 256, 3) := by decide +kernel
theorem dX10_differs_14 : decode cX10_differs 14 = .ok (.ifCond .ne 12, 3) := by decide +kernel
theorem dX10_differs_17 : decode cX10_differs 17 = .ok (.aload_n 0, 1) := by decide +kernel
theorem dX10_differs_18 : decode cX10_differs 18 = .ok (.iload_n 1, 1) := by decide +kernel
theorem dX10_differs_19 : decode cX10_differs 19 = .ok (.iload_n 3, 1) := by decide +kernel
theorem dX10_differs_20 : decode cX10_differs 20 = .ok (.invokevirtual 256, 3) := by decide +kernel
theorem dX10_differs_23 : decode cX10_differs 23 = .ok (.ifCond .eq 5, 3) := by decide +kernel
theorem dX10_differs_26 : decode cX10_differs 26 = .ok (.iconst 0, 1) := by decide +kernel
theorem dX10_differs_27 : decode cX10_differs 27 = .ok (.ireturn, 1) := by decide +kernel
theorem dX10_differs_28 : decode cX10_differs 28 = .ok (.aload_n 0, 1) := by decide +kernel
theorem dX10_differs_29 : decode cX10_differs 29 = .ok (.iload_n 1, 1) := by decide +kernel
theorem dX10_differs_30 : decode cX10_differs 30 = .ok (.iload_n 2, 1) := by decide +kernel
theorem dX10_differs_31 : decode cX10_differs 31 = .ok (.invokevirtual 259, 3) := by decide +kernel
theorem dX10_differs_34 : decode cX10_differs 34 = .ok (.lstore 5, 2) := by decide +kernel
theorem dX10_differs_36 : decode cX10_differs 36 = .ok (.aload_n 0, 1) := by decide +kernel
theorem dX10_differs_37 : decode cX10_differs 37 = .ok (.iload_n 1, 1) := by decide +kernel
theorem dX10_differs_38 : decode cX10_differs 38 = .ok (.iload_n 3, 1) := by decide +kernel
theorem dX10_differs_39 : decode cX10_differs 39 = .ok (.invokevirtual 259, 3) := by decide +kernel
theorem dX10_differs_42 : decode cX10_differs 42 = .ok (.lstore 7, 2) := by decide +kernel
theorem dX10_differs_44 : decode cX10_differs 44 = .ok (.iload 4, 2) := by decide +kernel
theorem dX10_differs_46 : decode cX10_differs 46 = .ok (.ifCond .eq 15, 3) := by decide +kernel
theorem dX10_differs_49 : decode cX10_differs 49 = .ok (.lload 7, 2) := by decide +kernel
theorem dX10_differs_51 : decode cX10_differs 51 = .ok (.lload 5, 2) := by decide +kernel
theorem dX10_differs_53 : decode cX10_differs 53 = .ok (.ldc2_w 201, 3) := by decide +kernel
theorem dX10_differs_56 : decode cX10_differs 56 = .ok (.lxor, 1) := by decide +kernel
theorem dX10_differs_57 : decode cX10_differs 57 = .ok (.land, 1) := by decide +kernel
theorem dX10_differs_58 : decode cX10_differs 58 = .ok (.goto 12, 3) := by decide +kernel
theorem dX10_differs_61 : decode cX10_differs 61 = .ok (.lload 5, 2) := by decide +kernel
theorem dX10_differs_63 : decode cX10_differs 63 = .ok (.lload 7, 2) := by decide +kernel
theorem dX10_differs_65 : decode cX10_differs 65 = .ok (.ldc2_w 201, 3) := by decide +kernel
theorem dX10_differs_68 : decode cX10_differs 68 = .ok (.lxor, 1) := by decide +kernel
theorem dX10_differs_69 : decode cX10_differs 69 = .ok (.land, 1) := by decide +kernel
theorem dX10_differs_70 : decode cX10_differs 70 = .ok (.invokestatic 263, 3) := by decide +kernel
theorem dX10_differs_73 : decode cX10_differs 73 = .ok (.ireturn, 1) := by decide +kernel
theorem dX10_since_0 : decode cX10_since 0 = .ok (.aload_n 0, 1) := by decide +kernel
theorem dX10_since_1 : decode cX10_since 1 = .ok (.iload_n 1, 1) := by decide +kernel
theorem dX10_since_2 : decode cX10_since 2 = .ok (.invokevirtual 247, 3) := by decide +kernel
theorem dX10_since_5 : decode cX10_since 5 = .ok (.ifCond .ne 24, 3) := by decide +kernel
theorem dX10_since_8 : decode cX10_since 8 = .ok (.aload_n 0, 1) := by decide +kernel
theorem dX10_since_9 : decode cX10_since 9 = .ok (.aload_n 0, 1) := by decide +kernel
theorem dX10_since_10 : decode cX10_since 10 = .ok (.iload_n 2, 1) := by decide +kernel
theorem dX10_since_11 : decode cX10_since 11 = .ok (.invokevirtual 253, 3) := by decide +kernel
theorem dX10_since_14 : decode cX10_since 14 = .ok (.ifCond .ne 7, 3) := by decide +kernel
theorem dX10_since_17 : decode cX10_since 17 = .ok (.iconst 1, 1) := by decide +kernel
theorem dX10_since_18 : decode cX10_since 18 = .ok (.goto 4, 3) := by decide +kernel
theorem dX10_since_21 : decode cX10_since 21 = .ok (.iconst 0, 1) := by decide +kernel
theorem dX10_since_22 : decode cX10_since 22 = .ok (.iconst 2, 1) := by decide +kernel
theorem dX10_since_23 : decode cX10_since 23 = .ok (.invokevirtual 168, 3) := by decide +kernel
theorem dX10_since_26 : decode cX10_since 26 = .ok (.ifCond .eq 5, 3) := by decide +kernel
theorem dX10_since_29 : decode cX10_since 29 = .ok (.iconst 0, 1) := by decide +kernel
theorem dX10_since_30 : decode cX10_since 30 = .ok (.ireturn, 1) := by decide +kernel
theorem dX10_since_31 : decode cX10_since 31 = .ok (.iconst (-1), 1) := by decide +kernel
theorem dX10_since_32 : decode cX10_since 32 = .ok (.istore_n 3, 1) := by decide +kernel
theorem dX10_since_33 : decode cX10_since 33 = .ok (.aload_n 0, 1) := by decide +kernel
theorem dX10_since_34 : decode cX10_since 34 = .ok (.iload_n 1, 1) := by decide +kernel
theorem dX10_since_35 : decode cX10_since 35 = .ok (.invokevirtual 205, 3) := by decide +kernel
theorem dX10_since_38 : decode cX10_since 38 = .ok (.lstore 4, 2) := by decide +kernel
theorem dX10_since_40 : decode cX10_since 40 = .ok (.iconst 0, 1) := by decide +kernel
theorem dX10_since_41 : decode cX10_since 41 = .ok (.istore 6, 2) := by decide +kernel
theorem dX10_since_43 : decode cX10_since 43 = .ok (.iload 6, 2) := by decide +kernel
theorem dX10_since_45 : decode cX10_since 45 = .ok (.aload_n 0, 1) := by decide +kernel
theorem dX10_since_46 : decode cX10_since 46 = .ok (.iload_n 1, 1) := by decide +kernel
theorem dX10_since_47 : decode cX10_since 47 = .ok (.iconst 3, 1) := by decide +kernel
theorem dX10_since_48 : decode cX10_since 48 = .ok (.invokevirtual 190, 3) := by decide +kernel
theorem dX10_since_51 : decode cX10_since 51 = .ok (.if_icmp .ge 51, 3) := by decide +kernel
theorem dX10_since_54 : decode cX10_since 54 = .ok (.aload_n 0, 1) := by decide +kernel
theorem dX10_since_55 : decode cX10_since 55 = .ok (.lload 4, 2) := by decide +kernel
theorem dX10_since_57 : decode cX10_since 57 = .ok (.iload_n 1, 1) := by decide +kernel
theorem dX10_since_58 : decode cX10_since 58 = .ok (.iload 6, 2) := by decide +kernel
theorem dX10_since_60 : decode cX10_since 60 = .ok (.invokevirtual 209, 3) := by decide +kernel
theorem dX10_since_63 : decode cX10_since 63 = .ok (.lstore 7, 2) := by decide +kernel
theorem dX10_since_65 : decode cX10_since 65 = .ok (.lload 7, 2) := by decide +kernel
theorem dX10_since_67 : decode cX10_since 67 = .ok (.lload 4, 2) := by decide +kernel
theorem dX10_since_69 : decode cX10_since 69 = .ok (.lxor, 1) := by decide +kernel
theorem dX10_since_70 : decode cX10_since 70 = .ok (.iload_n 2, 1) := by decide +kernel
theorem dX10_since_71 : decode cX10_since 71 = .ok (.lshr, 1) := by decide +kernel
theorem dX10_since_72 : decode cX10_since 72 = .ok (.lconst 1, 1) := by decide +kernel
theorem dX10_since_73 : decode cX10_since 73 = .ok (.land, 1) := by decide +kernel
theorem dX10_since_74 : decode cX10_since 74 = .ok (.lconst 1, 1) := by decide +kernel
theorem dX10_since_75 : decode cX10_since 75 = .ok (.lcmp, 1) := by decide +kernel
theorem dX10_since_76 : decode cX10_since 76 = .ok (.ifCond .ne 14, 3) := by decide +kernel
theorem dX10_since_79 : decode cX10_since 79 = .ok (.aload_n 0, 1) := by decide +kernel
theorem dX10_since_80 : decode cX10_since 80 = .ok (.iload_n 1, 1) := by decide +kernel
theorem dX10_since_81 : decode cX10_since 81 = .ok (.iload 6, 2) := by decide +kernel
theorem dX10_since_83 : decode cX10_since 83 = .ok (.iconst 0, 1) := by decide +kernel
theorem dX10_since_84 : decode cX10_since 84 = .ok (.invokevirtual 197, 3) := by decide +kernel
theorem dX10_since_87 : decode cX10_since 87 = .ok (.goto 4, 3) := by decide +kernel
theorem dX10_since_90 : decode cX10_since 90 = .ok (.iload_n 3, 1) := by decide +kernel
theorem dX10_since_91 : decode cX10_since 91 = .ok (.istore_n 3, 1) := by decide +kernel
theorem dX10_since_92 : decode cX10_since 92 = .ok (.lload 7, 2) := by decide +kernel
theorem dX10_since_94 : decode cX10_since 94 = .ok (.lstore 4, 2) := by decide +kernel
theorem dX10_since_96 : decode cX10_since 96 = .ok (.iinc 6 1, 3) := by decide +kernel
theorem dX10_since_99 : decode cX10_since 99 = .ok (.goto (-56), 3) := by decide +kernel
theorem dX10_since_102 : decode cX10_since 102 = .ok (.iload_n 3, 1) := by decide +kernel
theorem dX10_since_103 : decode cX10_since 103 = .ok (.ireturn, 1) := by decide +kernel
theorem dX10_fullest_0 : decode cX10_fullest 0 = .ok (.aload_n 0, 1) := by decide +kernel
theorem dX10_fullest_1 : decode cX10_fullest 1 = .ok (.iload_n 1, 1) := by decide +kernel
theorem dX10_fullest_2 : decode cX10_fullest 2 = .ok (.invokevirtual 247, 3) := by decide +kernel
theorem dX10_fullest_5 : decode cX10_fullest 5 = .ok (.ifCond .eq 5, 3) := by decide +kernel
theorem dX10_fullest_8 : decode cX10_fullest 8 = .ok (.iconst 0, 1) := by decide +kernel
theorem dX10_fullest_9 : decode cX10_fullest 9 = .ok (.ireturn, 1) := by decide +kernel
theorem dX10_fullest_10 : decode cX10_fullest 10 = .ok (.aload_n 0, 1) := by decide +kernel
theorem dX10_fullest_11 : decode cX10_fullest 11 = .ok (.iload_n 1, 1) := by decide +kernel
theorem dX10_fullest_12 : decode cX10_fullest 12 = .ok (.iconst 2, 1) := by decide +kernel
theorem dX10_fullest_13 : decode cX10_fullest 13 = .ok (.invokevirtual 190, 3) := by decide +kernel
theorem dX10_fullest_16 : decode cX10_fullest 16 = .ok (.istore_n 2, 1) := by decide +kernel
theorem dX10_fullest_17 : decode cX10_fullest 17 = .ok (.aload_n 0, 1) := by decide +kernel
theorem dX10_fullest_18 : decode cX10_fullest 18 = .ok (.iload_n 1, 1) := by decide +kernel
theorem dX10_fullest_19 : decode cX10_fullest 19 = .ok (.invokevirtual 205, 3) := by decide +kernel
theorem dX10_fullest_22 : decode cX10_fullest 22 = .ok (.lstore_n 3, 1) := by decide +kernel
theorem dX10_fullest_23 : decode cX10_fullest 23 = .ok (.lload_n 3, 1) := by decide +kernel
theorem dX10_fullest_24 : decode cX10_fullest 24 = .ok (.invokestatic 263, 3) := by decide +kernel
theorem dX10_fullest_27 : decode cX10_fullest 27 = .ok (.istore 5, 2) := by decide +kernel
theorem dX10_fullest_29 : decode cX10_fullest 29 = .ok (.iconst 0, 1) := by decide +kernel
theorem dX10_fullest_30 : decode cX10_fullest 30 = .ok (.istore 6, 2) := by decide +kernel
theorem dX10_fullest_32 : decode cX10_fullest 32 = .ok (.iload 6, 2) := by decide +kernel
theorem dX10_fullest_34 : decode cX10_fullest 34 = .ok (.aload_n 0, 1) := by decide +kernel
theorem dX10_fullest_35 : decode cX10_fullest 35 = .ok (.iload_n 1, 1) := by decide +kernel
theorem dX10_fullest_36 : decode cX10_fullest 36 = .ok (.iconst 3, 1) := by decide +kernel
theorem dX10_fullest_37 : decode cX10_fullest 37 = .ok (.invokevirtual 190, 3) := by decide +kernel
theorem dX10_fullest_40 : decode cX10_fullest 40 = .ok (.if_icmp .ge 42, 3) := by decide +kernel
theorem dX10_fullest_43 : decode cX10_fullest 43 = .ok (.aload_n 0, 1) := by decide +kernel
theorem dX10_fullest_44 : decode cX10_fullest 44 = .ok (.lload_n 3, 1) := by decide +kernel
theorem dX10_fullest_45 : decode cX10_fullest 45 = .ok (.iload_n 1, 1) := by decide +kernel
theorem dX10_fullest_46 : decode cX10_fullest 46 = .ok (.iload 6, 2) := by decide +kernel
theorem dX10_fullest_48 : decode cX10_fullest 48 = .ok (.invokevirtual 209, 3) := by decide +kernel
theorem dX10_fullest_51 : decode cX10_fullest 51 = .ok (.lstore_n 3, 1) := by decide +kernel
theorem dX10_fullest_52 : decode cX10_fullest 52 = .ok (.lload_n 3, 1) := by decide +kernel
theorem dX10_fullest_53 : decode cX10_fullest 53 = .ok (.invokestatic 263, 3) := by decide +kernel
theorem dX10_fullest_56 : decode cX10_fullest 56 = .ok (.iload 5, 2) := by decide +kernel
theorem dX10_fullest_58 : decode cX10_fullest 58 = .ok (.if_icmp .le 18, 3) := by decide +kernel
theorem dX10_fullest_61 : decode cX10_fullest 61 = .ok (.lload_n 3, 1) := by decide +kernel
theorem dX10_fullest_62 : decode cX10_fullest 62 = .ok (.invokestatic 263, 3) := by decide +kernel
theorem dX10_fullest_65 : decode cX10_fullest 65 = .ok (.istore 5, 2) := by decide +kernel
theorem dX10_fullest_67 : decode cX10_fullest 67 = .ok (.aload_n 0, 1) := by decide +kernel
theorem dX10_fullest_68 : decode cX10_fullest 68 = .ok (.iload_n 1, 1) := by decide +kernel
theorem dX10_fullest_69 : decode cX10_fullest 69 = .ok (.iload 6, 2) := by decide +kernel
theorem dX10_fullest_71 : decode cX10_fullest 71 = .ok (.iconst 0, 1) := by decide +kernel
theorem dX10_fullest_72 : decode cX10_fullest 72 = .ok (.invokevirtual 197, 3) := by decide +kernel
theorem dX10_fullest_75 : decode cX10_fullest 75 = .ok (.istore_n 2, 1) := by decide +kernel
theorem dX10_fullest_76 : decode cX10_fullest 76 = .ok (.iinc 6 1, 3) := by decide +kernel
theorem dX10_fullest_79 : decode cX10_fullest 79 = .ok (.goto (-47), 3) := by decide +kernel
theorem dX10_fullest_82 : decode cX10_fullest 82 = .ok (.iload_n 2, 1) := by decide +kernel
theorem dX10_fullest_83 : decode cX10_fullest 83 = .ok (.ireturn, 1) := by decide +kernel
theorem dX10_cursor_0 : decode cX10_cursor 0 = .ok (.aload_n 0, 1) := by decide +kernel
theorem dX10_cursor_1 : decode cX10_cursor 1 = .ok (.iload_n 1, 1) := by decide +kernel
theorem dX10_cursor_2 : decode cX10_cursor 2 = .ok (.invokevirtual 267, 3) := by decide +kernel
theorem dX10_cursor_5 : decode cX10_cursor 5 = .ok (.ifCond .ne 26, 3) := by decide +kernel
theorem dX10_cursor_8 : decode cX10_cursor 8 = .ok (.aload_n 0, 1) := by decide +kernel
theorem dX10_cursor_9 : decode cX10_cursor 9 = .ok (.iload_n 2, 1) := by decide +kernel
theorem dX10_cursor_10 : decode cX10_cursor 10 = .ok (.iconst 0, 1) := by decide +kernel
theorem dX10_cursor_11 : decode cX10_cursor 11 = .ok (.bipush 6, 2) := by decide +kernel
theorem dX10_cursor_13 : decode cX10_cursor 13 = .ok (.invokestatic 68, 3) := by decide +kernel
theorem dX10_cursor_16 : decode cX10_cursor 16 = .ok (.ifCond .ne 7, 3) := by decide +kernel
theorem dX10_cursor_19 : decode cX10_cursor 19 = .ok (.iconst 1, 1) := by decide +kernel
theorem dX10_cursor_20 : decode cX10_cursor 20 = .ok (.goto 4, 3) := by decide +kernel
theorem dX10_cursor_23 : decode cX10_cursor 23 = .ok (.iconst 0, 1) := by decide +kernel
theorem dX10_cursor_24 : decode cX10_cursor 24 = .ok (.iconst 2, 1) := by decide +kernel
theorem dX10_cursor_25 : decode cX10_cursor 25 = .ok (.invokevirtual 168, 3) := by decide +kernel
theorem dX10_cursor_28 : decode cX10_cursor 28 = .ok (.ifCond .eq 5, 3) := by decide +kernel
theorem dX10_cursor_31 : decode cX10_cursor 31 = .ok (.iconst 0, 1) := by decide +kernel
theorem dX10_cursor_32 : decode cX10_cursor 32 = .ok (.ireturn, 1) := by decide +kernel
theorem dX10_cursor_33 : decode cX10_cursor 33 = .ok (.iload_n 2, 1) := by decide +kernel
theorem dX10_cursor_34 : decode cX10_cursor 34 = .ok (.bipush 6, 2) := by decide +kernel
theorem dX10_cursor_36 : decode cX10_cursor 36 = .ok (.if_icmp .ne 15, 3) := by decide +kernel
theorem dX10_cursor_39 : decode cX10_cursor 39 = .ok (.aload_n 0, 1) := by decide +kernel
theorem dX10_cursor_40 : decode cX10_cursor 40 = .ok (.iload_n 1, 1) := by decide +kernel
theorem dX10_cursor_41 : decode cX10_cursor 41 = .ok (.bipush 7, 2) := by decide +kernel
theorem dX10_cursor_43 : decode cX10_cursor 43 = .ok (.invokevirtual 226, 3) := by decide +kernel
theorem dX10_cursor_46 : decode cX10_cursor 46 = .ok (.iconst 1, 1) := by decide +kernel
theorem dX10_cursor_47 : decode cX10_cursor 47 = .ok (.isub, 1) := by decide +kernel
theorem dX10_cursor_48 : decode cX10_cursor 48 = .ok (.goto 11, 3) := by decide +kernel
theorem dX10_cursor_51 : decode cX10_cursor 51 = .ok (.aload_n 0, 1) := by decide +kernel
theorem dX10_cursor_52 : decode cX10_cursor 52 = .ok (.iload_n 1, 1) := by decide +kernel
theorem dX10_cursor_53 : decode cX10_cursor 53 = .ok (.iload_n 2, 1) := by decide +kernel
theorem dX10_cursor_54 : decode cX10_cursor 54 = .ok (.iconst 1, 1) := by decide +kernel
theorem dX10_cursor_55 : decode cX10_cursor 55 = .ok (.iadd, 1) := by decide +kernel
theorem dX10_cursor_56 : decode cX10_cursor 56 = .ok (.invokevirtual 226, 3) := by decide +kernel
theorem dX10_cursor_59 : decode cX10_cursor 59 = .ok (.ireturn, 1) := by decide +kernel
theorem dX10_meets_0 : decode cX10_meets 0 = .ok (.aload_n 0, 1) := by decide +kernel
theorem dX10_meets_1 : decode cX10_meets 1 = .ok (.iload_n 1, 1) := by decide +kernel
theorem dX10_meets_2 : decode cX10_meets 2 = .ok (.iconst 4, 1) := by decide +kernel
theorem dX10_meets_3 : decode cX10_meets 3 = .ok (.invokevirtual 226, 3) := by decide +kernel
theorem dX10_meets_6 : decode cX10_meets 6 = .ok (.ifCond .eq 27, 3) := by decide +kernel
theorem dX10_meets_9 : decode cX10_meets 9 = .ok (.aload_n 0, 1) := by decide +kernel
theorem dX10_meets_10 : decode cX10_meets 10 = .ok (.aload_n 0, 1) := by decide +kernel
theorem dX10_meets_11 : decode cX10_meets 11 = .ok (.iload_n 1, 1) := by decide +kernel
theorem dX10_meets_12 : decode cX10_meets 12 = .ok (.iconst 1, 1) := by decide +kernel
theorem dX10_meets_13 : decode cX10_meets 13 = .ok (.invokevirtual 226, 3) := by decide +kernel
theorem dX10_meets_16 : decode cX10_meets 16 = .ok (.sipush 134, 3) := by decide +kernel
theorem dX10_meets_19 : decode cX10_meets 19 = .ok (.iload_n 2, 1) := by decide +kernel
theorem dX10_meets_20 : decode cX10_meets 20 = .ok (.iadd, 1) := by decide +kernel
theorem dX10_meets_21 : decode cX10_meets 21 = .ok (.invokevirtual 190, 3) := by decide +kernel
theorem dX10_meets_24 : decode cX10_meets 24 = .ok (.aload_n 0, 1) := by decide +kernel
theorem dX10_meets_25 : decode cX10_meets 25 = .ok (.iload_n 1, 1) := by decide +kernel
theorem dX10_meets_26 : decode cX10_meets 26 = .ok (.iconst 5, 1) := by decide +kernel
theorem dX10_meets_27 : decode cX10_meets 27 = .ok (.invokevirtual 226, 3) := by decide +kernel
theorem dX10_meets_30 : decode cX10_meets 30 = .ok (.if_icmp .gt 7, 3) := by decide +kernel
theorem dX10_meets_33 : decode cX10_meets 33 = .ok (.iconst 1, 1) := by decide +kernel
theorem dX10_meets_34 : decode cX10_meets 34 = .ok (.goto 4, 3) := by decide +kernel
theorem dX10_meets_37 : decode cX10_meets 37 = .ok (.iconst 0, 1) := by decide +kernel
theorem dX10_meets_38 : decode cX10_meets 38 = .ok (.ireturn, 1) := by decide +kernel
theorem dX10_ahead_0 : decode cX10_ahead 0 = .ok (.aload_n 0, 1) := by decide +kernel
theorem dX10_ahead_1 : decode cX10_ahead 1 = .ok (.iload_n 1, 1) := by decide +kernel
theorem dX10_ahead_2 : decode cX10_ahead 2 = .ok (.invokevirtual 267, 3) := by decide +kernel
theorem dX10_ahead_5 : decode cX10_ahead 5 = .ok (.ifCond .ne 12, 3) := by decide +kernel
theorem dX10_ahead_8 : decode cX10_ahead 8 = .ok (.aload_n 0, 1) := by decide +kernel
theorem dX10_ahead_9 : decode cX10_ahead 9 = .ok (.iload_n 1, 1) := by decide +kernel
theorem dX10_ahead_10 : decode cX10_ahead 10 = .ok (.iconst 3, 1) := by decide +kernel
theorem dX10_ahead_11 : decode cX10_ahead 11 = .ok (.invokevirtual 226, 3) := by decide +kernel
theorem dX10_ahead_14 : decode cX10_ahead 14 = .ok (.ifCond .ne 5, 3) := by decide +kernel
theorem dX10_ahead_17 : decode cX10_ahead 17 = .ok (.iconst 0, 1) := by decide +kernel
theorem dX10_ahead_18 : decode cX10_ahead 18 = .ok (.ireturn, 1) := by decide +kernel
theorem dX10_ahead_19 : decode cX10_ahead 19 = .ok (.aload_n 0, 1) := by decide +kernel
theorem dX10_ahead_20 : decode cX10_ahead 20 = .ok (.iload_n 1, 1) := by decide +kernel
theorem dX10_ahead_21 : decode cX10_ahead 21 = .ok (.iconst 1, 1) := by decide +kernel
theorem dX10_ahead_22 : decode cX10_ahead 22 = .ok (.invokevirtual 226, 3) := by decide +kernel
theorem dX10_ahead_25 : decode cX10_ahead 25 = .ok (.istore_n 2, 1) := by decide +kernel
theorem dX10_ahead_26 : decode cX10_ahead 26 = .ok (.iconst 0, 1) := by decide +kernel
theorem dX10_ahead_27 : decode cX10_ahead 27 = .ok (.istore_n 3, 1) := by decide +kernel
theorem dX10_ahead_28 : decode cX10_ahead 28 = .ok (.aload_n 0, 1) := by decide +kernel
theorem dX10_ahead_29 : decode cX10_ahead 29 = .ok (.iload_n 1, 1) := by decide +kernel
theorem dX10_ahead_30 : decode cX10_ahead 30 = .ok (.iconst 2, 1) := by decide +kernel
theorem dX10_ahead_31 : decode cX10_ahead 31 = .ok (.invokevirtual 226, 3) := by decide +kernel
theorem dX10_ahead_34 : decode cX10_ahead 34 = .ok (.istore 4, 2) := by decide +kernel
theorem dX10_ahead_36 : decode cX10_ahead 36 = .ok (.iload 4, 2) := by decide +kernel
theorem dX10_ahead_38 : decode cX10_ahead 38 = .ok (.aload_n 0, 1) := by decide +kernel
theorem dX10_ahead_39 : decode cX10_ahead 39 = .ok (.iload_n 2, 1) := by decide +kernel
theorem dX10_ahead_40 : decode cX10_ahead 40 = .ok (.iconst 0, 1) := by decide +kernel
theorem dX10_ahead_41 : decode cX10_ahead 41 = .ok (.invokevirtual 190, 3) := by decide +kernel
theorem dX10_ahead_44 : decode cX10_ahead 44 = .ok (.if_icmp .ge 35, 3) := by decide +kernel
theorem dX10_ahead_47 : decode cX10_ahead 47 = .ok (.iload_n 3, 1) := by decide +kernel
theorem dX10_ahead_48 : decode cX10_ahead 48 = .ok (.aload_n 0, 1) := by decide +kernel
theorem dX10_ahead_49 : decode cX10_ahead 49 = .ok (.iload_n 1, 1) := by decide +kernel
theorem dX10_ahead_50 : decode cX10_ahead 50 = .ok (.aload_n 0, 1) := by decide +kernel
theorem dX10_ahead_51 : decode cX10_ahead 51 = .ok (.iload_n 2, 1) := by decide +kernel
theorem dX10_ahead_52 : decode cX10_ahead 52 = .ok (.bipush 6, 2) := by decide +kernel
theorem dX10_ahead_54 : decode cX10_ahead 54 = .ok (.iload 4, 2) := by decide +kernel
theorem dX10_ahead_56 : decode cX10_ahead 56 = .ok (.iadd, 1) := by decide +kernel
theorem dX10_ahead_57 : decode cX10_ahead 57 = .ok (.invokevirtual 190, 3) := by decide +kernel
theorem dX10_ahead_60 : decode cX10_ahead 60 = .ok (.invokevirtual 270, 3) := by decide +kernel
theorem dX10_ahead_63 : decode cX10_ahead 63 = .ok (.ifCond .eq 7, 3) := by decide +kernel
theorem dX10_ahead_66 : decode cX10_ahead 66 = .ok (.iconst 1, 1) := by decide +kernel
theorem dX10_ahead_67 : decode cX10_ahead 67 = .ok (.goto 4, 3) := by decide +kernel
theorem dX10_ahead_70 : decode cX10_ahead 70 = .ok (.iconst 0, 1) := by decide +kernel
theorem dX10_ahead_71 : decode cX10_ahead 71 = .ok (.iadd, 1) := by decide +kernel
theorem dX10_ahead_72 : decode cX10_ahead 72 = .ok (.istore_n 3, 1) := by decide +kernel
theorem dX10_ahead_73 : decode cX10_ahead 73 = .ok (.iinc 4 1, 3) := by decide +kernel
theorem dX10_ahead_76 : decode cX10_ahead 76 = .ok (.goto (-40), 3) := by decide +kernel
theorem dX10_ahead_79 : decode cX10_ahead 79 = .ok (.iload_n 3, 1) := by decide +kernel
theorem dX10_ahead_80 : decode cX10_ahead 80 = .ok (.ireturn, 1) := by decide +kernel
theorem dX10_noSets_0 : decode cX10_noSets 0 = .ok (.aload_n 0, 1) := by decide +kernel
theorem dX10_noSets_1 : decode cX10_noSets 1 = .ok (.iload_n 1, 1) := by decide +kernel
theorem dX10_noSets_2 : decode cX10_noSets 2 = .ok (.invokevirtual 247, 3) := by decide +kernel
theorem dX10_noSets_5 : decode cX10_noSets 5 = .ok (.ifCond .ne 17, 3) := by decide +kernel
theorem dX10_noSets_8 : decode cX10_noSets 8 = .ok (.aload_n 0, 1) := by decide +kernel
theorem dX10_noSets_9 : decode cX10_noSets 9 = .ok (.iload_n 2, 1) := by decide +kernel
theorem dX10_noSets_10 : decode cX10_noSets 10 = .ok (.aload_n 0, 1) := by decide +kernel
theorem dX10_noSets_11 : decode cX10_noSets 11 = .ok (.getfield 7, 3) := by decide +kernel
theorem dX10_noSets_14 : decode cX10_noSets 14 = .ok (.iconst 0, 1) := by decide +kernel
theorem dX10_noSets_15 : decode cX10_noSets 15 = .ok (.iaload, 1) := by decide +kernel
theorem dX10_noSets_16 : decode cX10_noSets 16 = .ok (.invokevirtual 244, 3) := by decide +kernel
theorem dX10_noSets_19 : decode cX10_noSets 19 = .ok (.ifCond .eq 7, 3) := by decide +kernel
theorem dX10_noSets_22 : decode cX10_noSets 22 = .ok (.iconst 1, 1) := by decide +kernel
theorem dX10_noSets_23 : decode cX10_noSets 23 = .ok (.goto 4, 3) := by decide +kernel
theorem dX10_noSets_26 : decode cX10_noSets 26 = .ok (.iconst 0, 1) := by decide +kernel
theorem dX10_noSets_27 : decode cX10_noSets 27 = .ok (.ireturn, 1) := by decide +kernel
theorem dX10_commonOf_0 : decode cX10_commonOf 0 = .ok (.iconst 0, 1) := by decide +kernel
theorem dX10_commonOf_1 : decode cX10_commonOf 1 = .ok (.istore_n 3, 1) := by decide +kernel
theorem dX10_commonOf_2 : decode cX10_commonOf 2 = .ok (.iconst 0, 1) := by decide +kernel
theorem dX10_commonOf_3 : decode cX10_commonOf 3 = .ok (.istore 4, 2) := by decide +kernel
theorem dX10_commonOf_5 : decode cX10_commonOf 5 = .ok (.iload 4, 2) := by decide +kernel
theorem dX10_commonOf_7 : decode cX10_commonOf 7 = .ok (.aload_n 0, 1) := by decide +kernel
theorem dX10_commonOf_8 : decode cX10_commonOf 8 = .ok (.getfield 7, 3) := by decide +kernel
theorem dX10_commonOf_11 : decode cX10_commonOf 11 = .ok (.iconst 1, 1) := by decide +kernel
theorem dX10_commonOf_12 : decode cX10_commonOf 12 = .ok (.iaload, 1) := by decide +kernel
theorem dX10_commonOf_13 : decode cX10_commonOf 13 = .ok (.if_icmp .ge 37, 3) := by decide +kernel
theorem dX10_commonOf_16 : decode cX10_commonOf 16 = .ok (.iload_n 3, 1) := by decide +kernel
theorem dX10_commonOf_17 : decode cX10_commonOf 17 = .ok (.aload_n 0, 1) := by decide +kernel
theorem dX10_commonOf_18 : decode cX10_commonOf 18 = .ok (.iload_n 1, 1) := by decide +kernel
theorem dX10_commonOf_19 : decode cX10_commonOf 19 = .ok (.iload 4, 2) := by decide +kernel
theorem dX10_commonOf_21 : decode cX10_commonOf 21 = .ok (.invokevirtual 129, 3) := by decide +kernel
theorem dX10_commonOf_24 : decode cX10_commonOf 24 = .ok (.ifCond .eq 17, 3) := by decide +kernel
theorem dX10_commonOf_27 : decode cX10_commonOf 27 = .ok (.aload_n 0, 1) := by decide +kernel
theorem dX10_commonOf_28 : decode cX10_commonOf 28 = .ok (.iload_n 2, 1) := by decide +kernel
theorem dX10_commonOf_29 : decode cX10_commonOf 29 = .ok (.iload 4, 2) := by decide +kernel
theorem dX10_commonOf_31 : decode cX10_commonOf 31 = .ok (.invokevirtual 129, 3) := by decide +kernel
theorem dX10_commonOf_34 : decode cX10_commonOf 34 = .ok (.ifCond .eq 7, 3) := by decide +kernel
theorem dX10_commonOf_37 : decode cX10_commonOf 37 = .ok (.iconst 1, 1) := by decide +kernel
theorem dX10_commonOf_38 : decode cX10_commonOf 38 = .ok (.goto 4, 3) := by decide +kernel
theorem dX10_commonOf_41 : decode cX10_commonOf 41 = .ok (.iconst 0, 1) := by decide +kernel
theorem dX10_commonOf_42 : decode cX10_commonOf 42 = .ok (.iadd, 1) := by decide +kernel
theorem dX10_commonOf_43 : decode cX10_commonOf 43 = .ok (.istore_n 3, 1) := by decide +kernel
theorem dX10_commonOf_44 : decode cX10_commonOf 44 = .ok (.iinc 4 1, 3) := by decide +kernel
theorem dX10_commonOf_47 : decode cX10_commonOf 47 = .ok (.goto (-42), 3) := by decide +kernel
theorem dX10_commonOf_50 : decode cX10_commonOf 50 = .ok (.iload_n 3, 1) := by decide +kernel
theorem dX10_commonOf_51 : decode cX10_commonOf 51 = .ok (.ireturn, 1) := by decide +kernel
theorem dX10_common_0 : decode cX10_common 0 = .ok (.aload_n 0, 1) := by decide +kernel
theorem dX10_common_1 : decode cX10_common 1 = .ok (.iload_n 1, 1) := by decide +kernel
theorem dX10_common_2 : decode cX10_common 2 = .ok (.iload_n 2, 1) := by decide +kernel
theorem dX10_common_3 : decode cX10_common 3 = .ok (.invokevirtual 273, 3) := by decide +kernel
theorem dX10_common_6 : decode cX10_common 6 = .ok (.ifCond .eq 7, 3) := by decide +kernel
theorem dX10_common_9 : decode cX10_common 9 = .ok (.iconst 0, 1) := by decide +kernel
theorem dX10_common_10 : decode cX10_common 10 = .ok (.goto 9, 3) := by decide +kernel
theorem dX10_common_13 : decode cX10_common 13 = .ok (.aload_n 0, 1) := by decide +kernel
theorem dX10_common_14 : decode cX10_common 14 = .ok (.iload_n 1, 1) := by decide +kernel
theorem dX10_common_15 : decode cX10_common 15 = .ok (.iload_n 2, 1) := by decide +kernel
theorem dX10_common_16 : decode cX10_common 16 = .ok (.invokevirtual 276, 3) := by decide +kernel
theorem dX10_common_19 : decode cX10_common 19 = .ok (.ireturn, 1) := by decide +kernel
theorem dX10_isWithin_0 : decode cX10_isWithin 0 = .ok (.aload_n 0, 1) := by decide +kernel
theorem dX10_isWithin_1 : decode cX10_isWithin 1 = .ok (.iload_n 1, 1) := by decide +kernel
theorem dX10_isWithin_2 : decode cX10_isWithin 2 = .ok (.iload_n 2, 1) := by decide +kernel
theorem dX10_isWithin_3 : decode cX10_isWithin 3 = .ok (.invokevirtual 273, 3) := by decide +kernel
theorem dX10_isWithin_6 : decode cX10_isWithin 6 = .ok (.ifCond .ne 22, 3) := by decide +kernel
theorem dX10_isWithin_9 : decode cX10_isWithin 9 = .ok (.aload_n 0, 1) := by decide +kernel
theorem dX10_isWithin_10 : decode cX10_isWithin 10 = .ok (.iload_n 1, 1) := by decide +kernel
theorem dX10_isWithin_11 : decode cX10_isWithin 11 = .ok (.iload_n 2, 1) := by decide +kernel
theorem dX10_isWithin_12 : decode cX10_isWithin 12 = .ok (.invokevirtual 276, 3) := by decide +kernel
theorem dX10_isWithin_15 : decode cX10_isWithin 15 = .ok (.aload_n 0, 1) := by decide +kernel
theorem dX10_isWithin_16 : decode cX10_isWithin 16 = .ok (.iload_n 1, 1) := by decide +kernel
theorem dX10_isWithin_17 : decode cX10_isWithin 17 = .ok (.iconst 0, 1) := by decide +kernel
theorem dX10_isWithin_18 : decode cX10_isWithin 18 = .ok (.invokevirtual 190, 3) := by decide +kernel
theorem dX10_isWithin_21 : decode cX10_isWithin 21 = .ok (.if_icmp .ne 7, 3) := by decide +kernel
theorem dX10_isWithin_24 : decode cX10_isWithin 24 = .ok (.iconst 1, 1) := by decide +kernel
theorem dX10_isWithin_25 : decode cX10_isWithin 25 = .ok (.goto 4, 3) := by decide +kernel
theorem dX10_isWithin_28 : decode cX10_isWithin 28 = .ok (.iconst 0, 1) := by decide +kernel
theorem dX10_isWithin_29 : decode cX10_isWithin 29 = .ok (.ireturn, 1) := by decide +kernel
theorem dX10_likeness_0 : decode cX10_likeness 0 = .ok (.aload_n 0, 1) := by decide +kernel
theorem dX10_likeness_1 : decode cX10_likeness 1 = .ok (.iload_n 1, 1) := by decide +kernel
theorem dX10_likeness_2 : decode cX10_likeness 2 = .ok (.iload_n 2, 1) := by decide +kernel
theorem dX10_likeness_3 : decode cX10_likeness 3 = .ok (.invokevirtual 273, 3) := by decide +kernel
theorem dX10_likeness_6 : decode cX10_likeness 6 = .ok (.ifCond .eq 5, 3) := by decide +kernel
theorem dX10_likeness_9 : decode cX10_likeness 9 = .ok (.dconst 0, 1) := by decide +kernel
theorem dX10_likeness_10 : decode cX10_likeness 10 = .ok (.dreturn, 1) := by decide +kernel
theorem dX10_likeness_11 : decode cX10_likeness 11 = .ok (.aload_n 0, 1) := by decide +kernel
theorem dX10_likeness_12 : decode cX10_likeness 12 = .ok (.iload_n 1, 1) := by decide +kernel
theorem dX10_likeness_13 : decode cX10_likeness 13 = .ok (.iload_n 2, 1) := by decide +kernel
theorem dX10_likeness_14 : decode cX10_likeness 14 = .ok (.invokevirtual 276, 3) := by decide +kernel
theorem dX10_likeness_17 : decode cX10_likeness 17 = .ok (.istore_n 3, 1) := by decide +kernel
theorem dX10_likeness_18 : decode cX10_likeness 18 = .ok (.aload_n 0, 1) := by decide +kernel
theorem dX10_likeness_19 : decode cX10_likeness 19 = .ok (.iload_n 1, 1) := by decide +kernel
theorem dX10_likeness_20 : decode cX10_likeness 20 = .ok (.iconst 0, 1) := by decide +kernel
theorem dX10_likeness_21 : decode cX10_likeness 21 = .ok (.invokevirtual 190, 3) := by decide +kernel
theorem dX10_likeness_24 : decode cX10_likeness 24 = .ok (.aload_n 0, 1) := by decide +kernel
theorem dX10_likeness_25 : decode cX10_likeness 25 = .ok (.iload_n 2, 1) := by decide +kernel
theorem dX10_likeness_26 : decode cX10_likeness 26 = .ok (.iconst 0, 1) := by decide +kernel
theorem dX10_likeness_27 : decode cX10_likeness 27 = .ok (.invokevirtual 190, 3) := by decide +kernel
theorem dX10_likeness_30 : decode cX10_likeness 30 = .ok (.iadd, 1) := by decide +kernel
theorem dX10_likeness_31 : decode cX10_likeness 31 = .ok (.iload_n 3, 1) := by decide +kernel
theorem dX10_likeness_32 : decode cX10_likeness 32 = .ok (.isub, 1) := by decide +kernel
theorem dX10_likeness_33 : decode cX10_likeness 33 = .ok (.istore 4, 2) := by decide +kernel
theorem dX10_likeness_35 : decode cX10_likeness 35 = .ok (.iload 4, 2) := by decide +kernel
theorem dX10_likeness_37 : decode cX10_likeness 37 = .ok (.ifCond .ne 7, 3) := by decide +kernel
theorem dX10_likeness_40 : decode cX10_likeness 40 = .ok (.dconst 1, 1) := by decide +kernel
theorem dX10_likeness_41 : decode cX10_likeness 41 = .ok (.goto 9, 3) := by decide +kernel
theorem dX10_likeness_44 : decode cX10_likeness 44 = .ok (.iload_n 3, 1) := by decide +kernel
theorem dX10_likeness_45 : decode cX10_likeness 45 = .ok (.i2d, 1) := by decide +kernel
theorem dX10_likeness_46 : decode cX10_likeness 46 = .ok (.iload 4, 2) := by decide +kernel
theorem dX10_likeness_48 : decode cX10_likeness 48 = .ok (.i2d, 1) := by decide +kernel
theorem dX10_likeness_49 : decode cX10_likeness 49 = .ok (.ddiv, 1) := by decide +kernel
theorem dX10_likeness_50 : decode cX10_likeness 50 = .ok (.dreturn, 1) := by decide +kernel
theorem dX10_keeps_0 : decode cX10_keeps 0 = .ok (.aload_n 0, 1) := by decide +kernel
theorem dX10_keeps_1 : decode cX10_keeps 1 = .ok (.getfield 187, 3) := by decide +kernel
theorem dX10_keeps_4 : decode cX10_keeps 4 = .ok (.bipush 10, 2) := by decide +kernel
theorem dX10_keeps_6 : decode cX10_keeps 6 = .ok (.if_icmp .ne 52, 3) := by decide +kernel
theorem dX10_keeps_9 : decode cX10_keeps 9 = .ok (.aload_n 0, 1) := by decide +kernel
theorem dX10_keeps_10 : decode cX10_keeps 10 = .ok (.dup, 1) := by decide +kernel
theorem dX10_keeps_11 : decode cX10_keeps 11 = .ok (.getfield 187, 3) := by decide +kernel
theorem dX10_keeps_14 : decode cX10_keeps 14 = .ok (.iconst 1, 1) := by decide +kernel
theorem dX10_keeps_15 : decode cX10_keeps 15 = .ok (.isub, 1) := by decide +kernel
theorem dX10_keeps_16 : decode cX10_keeps 16 = .ok (.putfield 187, 3) := by decide +kernel
theorem dX10_keeps_19 : decode cX10_keeps 19 = .ok (.iconst 0, 1) := by decide +kernel
theorem dX10_keeps_20 : decode cX10_keeps 20 = .ok (.istore_n 1, 1) := by decide +kernel
theorem dX10_keeps_21 : decode cX10_keeps 21 = .ok (.iload_n 1, 1) := by decide +kernel
theorem dX10_keeps_22 : decode cX10_keeps 22 = .ok (.aload_n 0, 1) := by decide +kernel
theorem dX10_keeps_23 : decode cX10_keeps 23 = .ok (.getfield 187, 3) := by decide +kernel
theorem dX10_keeps_26 : decode cX10_keeps 26 = .ok (.if_icmp .ge 32, 3) := by decide +kernel
theorem dX10_keeps_29 : decode cX10_keeps 29 = .ok (.aload_n 0, 1) := by decide +kernel
theorem dX10_keeps_30 : decode cX10_keeps 30 = .ok (.getfield 34, 3) := by decide +kernel
theorem dX10_keeps_33 : decode cX10_keeps 33 = .ok (.sipush 1952, 3) := by decide +kernel
theorem dX10_keeps_36 : decode cX10_keeps 36 = .ok (.iload_n 1, 1) := by decide +kernel
theorem dX10_keeps_37 : decode cX10_keeps 37 = .ok (.iconst 1, 1) := by decide +kernel
theorem dX10_keeps_38 : decode cX10_keeps 38 = .ok (.iadd, 1) := by decide +kernel
theorem dX10_keeps_39 : decode cX10_keeps 39 = .ok (.imul, 1) := by decide +kernel
theorem dX10_keeps_40 : decode cX10_keeps 40 = .ok (.aload_n 0, 1) := by decide +kernel
theorem dX10_keeps_41 : decode cX10_keeps 41 = .ok (.getfield 34, 3) := by decide +kernel
theorem dX10_keeps_44 : decode cX10_keeps 44 = .ok (.sipush 1952, 3) := by decide +kernel
theorem dX10_keeps_47 : decode cX10_keeps 47 = .ok (.iload_n 1, 1) := by decide +kernel
theorem dX10_keeps_48 : decode cX10_keeps 48 = .ok (.imul, 1) := by decide +kernel
theorem dX10_keeps_49 : decode cX10_keeps 49 = .ok (.invokestatic 172, 3) := by decide +kernel
theorem dX10_keeps_52 : decode cX10_keeps 52 = .ok (.iinc 1 1, 3) := by decide +kernel
theorem dX10_keeps_55 : decode cX10_keeps 55 = .ok (.goto (-34), 3) := by decide +kernel
theorem dX10_keeps_58 : decode cX10_keeps 58 = .ok (.aload_n 0, 1) := by decide +kernel
theorem dX10_keeps_59 : decode cX10_keeps 59 = .ok (.getfield 7, 3) := by decide +kernel
theorem dX10_keeps_62 : decode cX10_keeps 62 = .ok (.iconst 0, 1) := by decide +kernel
theorem dX10_keeps_63 : decode cX10_keeps 63 = .ok (.aload_n 0, 1) := by decide +kernel
theorem dX10_keeps_64 : decode cX10_keeps 64 = .ok (.getfield 34, 3) := by decide +kernel
theorem dX10_keeps_67 : decode cX10_keeps 67 = .ok (.sipush 1952, 3) := by decide +kernel
theorem dX10_keeps_70 : decode cX10_keeps 70 = .ok (.aload_n 0, 1) := by decide +kernel
theorem dX10_keeps_71 : decode cX10_keeps 71 = .ok (.getfield 187, 3) := by decide +kernel
theorem dX10_keeps_74 : decode cX10_keeps 74 = .ok (.imul, 1) := by decide +kernel
theorem dX10_keeps_75 : decode cX10_keeps 75 = .ok (.invokestatic 172, 3) := by decide +kernel
theorem dX10_keeps_78 : decode cX10_keeps 78 = .ok (.aload_n 0, 1) := by decide +kernel
theorem dX10_keeps_79 : decode cX10_keeps 79 = .ok (.dup, 1) := by decide +kernel
theorem dX10_keeps_80 : decode cX10_keeps 80 = .ok (.getfield 187, 3) := by decide +kernel
theorem dX10_keeps_83 : decode cX10_keeps 83 = .ok (.iconst 1, 1) := by decide +kernel
theorem dX10_keeps_84 : decode cX10_keeps 84 = .ok (.iadd, 1) := by decide +kernel
theorem dX10_keeps_85 : decode cX10_keeps 85 = .ok (.putfield 187, 3) := by decide +kernel
theorem dX10_keeps_88 : decode cX10_keeps 88 = .ok (.return_, 1) := by decide +kernel
theorem dX10_add_0 : decode cX10_add 0 = .ok (.aload_n 0, 1) := by decide +kernel
theorem dX10_add_1 : decode cX10_add 1 = .ok (.iload_n 1, 1) := by decide +kernel
theorem dX10_add_2 : decode cX10_add 2 = .ok (.invokevirtual 247, 3) := by decide +kernel
theorem dX10_add_5 : decode cX10_add 5 = .ok (.ifCond .ne 24, 3) := by decide +kernel
theorem dX10_add_8 : decode cX10_add 8 = .ok (.aload_n 0, 1) := by decide +kernel
theorem dX10_add_9 : decode cX10_add 9 = .ok (.aload_n 0, 1) := by decide +kernel
theorem dX10_add_10 : decode cX10_add 10 = .ok (.iload_n 2, 1) := by decide +kernel
theorem dX10_add_11 : decode cX10_add 11 = .ok (.invokevirtual 253, 3) := by decide +kernel
theorem dX10_add_14 : decode cX10_add 14 = .ok (.ifCond .ne 7, 3) := by decide +kernel
theorem dX10_add_17 : decode cX10_add 17 = .ok (.iconst 1, 1) := by decide +kernel
theorem dX10_add_18 : decode cX10_add 18 = .ok (.goto 4, 3) := by decide +kernel
theorem dX10_add_21 : decode cX10_add 21 = .ok (.iconst 0, 1) := by decide +kernel
theorem dX10_add_22 : decode cX10_add 22 = .ok (.iconst 2, 1) := by decide +kernel
theorem dX10_add_23 : decode cX10_add 23 = .ok (.invokevirtual 168, 3) := by decide +kernel
theorem dX10_add_26 : decode cX10_add 26 = .ok (.ifCond .eq 5, 3) := by decide +kernel
theorem dX10_add_29 : decode cX10_add 29 = .ok (.iconst 0, 1) := by decide +kernel
theorem dX10_add_30 : decode cX10_add 30 = .ok (.ireturn, 1) := by decide +kernel
theorem dX10_add_31 : decode cX10_add 31 = .ok (.aload_n 0, 1) := by decide +kernel
theorem dX10_add_32 : decode cX10_add 32 = .ok (.invokevirtual 279, 3) := by decide +kernel
theorem dX10_add_35 : decode cX10_add 35 = .ok (.aload_n 0, 1) := by decide +kernel
theorem dX10_add_36 : decode cX10_add 36 = .ok (.iload_n 1, 1) := by decide +kernel
theorem dX10_add_37 : decode cX10_add 37 = .ok (.iload_n 2, 1) := by decide +kernel
theorem dX10_add_38 : decode cX10_add 38 = .ok (.invokevirtual 125, 3) := by decide +kernel
theorem dX10_add_41 : decode cX10_add 41 = .ok (.aload_n 0, 1) := by decide +kernel
theorem dX10_add_42 : decode cX10_add 42 = .ok (.iload_n 1, 1) := by decide +kernel
theorem dX10_add_43 : decode cX10_add 43 = .ok (.bipush 70, 2) := by decide +kernel
theorem dX10_add_45 : decode cX10_add 45 = .ok (.iload_n 2, 1) := by decide +kernel
theorem dX10_add_46 : decode cX10_add 46 = .ok (.iadd, 1) := by decide +kernel
theorem dX10_add_47 : decode cX10_add 47 = .ok (.invokevirtual 190, 3) := by decide +kernel
theorem dX10_add_50 : decode cX10_add 50 = .ok (.ireturn, 1) := by decide +kernel
theorem dX10_remove_0 : decode cX10_remove 0 = .ok (.aload_n 0, 1) := by decide +kernel
theorem dX10_remove_1 : decode cX10_remove 1 = .ok (.iload_n 1, 1) := by decide +kernel
theorem dX10_remove_2 : decode cX10_remove 2 = .ok (.invokevirtual 247, 3) := by decide +kernel
theorem dX10_remove_5 : decode cX10_remove 5 = .ok (.ifCond .ne 24, 3) := by decide +kernel
theorem dX10_remove_8 : decode cX10_remove 8 = .ok (.aload_n 0, 1) := by decide +kernel
theorem dX10_remove_9 : decode cX10_remove 9 = .ok (.aload_n 0, 1) := by decide +kernel
theorem dX10_remove_10 : decode cX10_remove 10 = .ok (.iload_n 2, 1) := by decide +kernel
theorem dX10_remove_11 : decode cX10_remove 11 = .ok (.invokevirtual 253, 3) := by decide +kernel
theorem dX10_remove_14 : decode cX10_remove 14 = .ok (.ifCond .ne 7, 3) := by decide +kernel
theorem dX10_remove_17 : decode cX10_remove 17 = .ok (.iconst 1, 1) := by decide +kernel
theorem dX10_remove_18 : decode cX10_remove 18 = .ok (.goto 4, 3) := by decide +kernel
theorem dX10_remove_21 : decode cX10_remove 21 = .ok (.iconst 0, 1) := by decide +kernel
theorem dX10_remove_22 : decode cX10_remove 22 = .ok (.iconst 2, 1) := by decide +kernel
theorem dX10_remove_23 : decode cX10_remove 23 = .ok (.invokevirtual 168, 3) := by decide +kernel
theorem dX10_remove_26 : decode cX10_remove 26 = .ok (.ifCond .eq 5, 3) := by decide +kernel
theorem dX10_remove_29 : decode cX10_remove 29 = .ok (.iconst 0, 1) := by decide +kernel
theorem dX10_remove_30 : decode cX10_remove 30 = .ok (.ireturn, 1) := by decide +kernel
theorem dX10_remove_31 : decode cX10_remove 31 = .ok (.aload_n 0, 1) := by decide +kernel
theorem dX10_remove_32 : decode cX10_remove 32 = .ok (.invokevirtual 279, 3) := by decide +kernel
theorem dX10_remove_35 : decode cX10_remove 35 = .ok (.aload_n 0, 1) := by decide +kernel
theorem dX10_remove_36 : decode cX10_remove 36 = .ok (.iload_n 1, 1) := by decide +kernel
theorem dX10_remove_37 : decode cX10_remove 37 = .ok (.iload_n 2, 1) := by decide +kernel
theorem dX10_remove_38 : decode cX10_remove 38 = .ok (.invokevirtual 129, 3) := by decide +kernel
theorem dX10_remove_41 : decode cX10_remove 41 = .ok (.istore_n 3, 1) := by decide +kernel
theorem dX10_remove_42 : decode cX10_remove 42 = .ok (.iload_n 3, 1) := by decide +kernel
theorem dX10_remove_43 : decode cX10_remove 43 = .ok (.ifCond .eq 9, 3) := by decide +kernel
theorem dX10_remove_46 : decode cX10_remove 46 = .ok (.aload_n 0, 1) := by decide +kernel
theorem dX10_remove_47 : decode cX10_remove 47 = .ok (.iload_n 1, 1) := by decide +kernel
theorem dX10_remove_48 : decode cX10_remove 48 = .ok (.iload_n 2, 1) := by decide +kernel
theorem dX10_remove_49 : decode cX10_remove 49 = .ok (.invokevirtual 132, 3) := by decide +kernel
theorem dX10_remove_52 : decode cX10_remove 52 = .ok (.iload_n 3, 1) := by decide +kernel
theorem dX10_remove_53 : decode cX10_remove 53 = .ok (.ireturn, 1) := by decide +kernel
theorem dX10_clear_0 : decode cX10_clear 0 = .ok (.aload_n 0, 1) := by decide +kernel
theorem dX10_clear_1 : decode cX10_clear 1 = .ok (.iload_n 1, 1) := by decide +kernel
theorem dX10_clear_2 : decode cX10_clear 2 = .ok (.invokevirtual 247, 3) := by decide +kernel
theorem dX10_clear_5 : decode cX10_clear 5 = .ok (.ifCond .eq 5, 3) := by decide +kernel
theorem dX10_clear_8 : decode cX10_clear 8 = .ok (.iconst 0, 1) := by decide +kernel
theorem dX10_clear_9 : decode cX10_clear 9 = .ok (.ireturn, 1) := by decide +kernel
theorem dX10_clear_10 : decode cX10_clear 10 = .ok (.aload_n 0, 1) := by decide +kernel
theorem dX10_clear_11 : decode cX10_clear 11 = .ok (.invokevirtual 279, 3) := by decide +kernel
theorem dX10_clear_14 : decode cX10_clear 14 = .ok (.aload_n 0, 1) := by decide +kernel
theorem dX10_clear_15 : decode cX10_clear 15 = .ok (.iload_n 1, 1) := by decide +kernel
theorem dX10_clear_16 : decode cX10_clear 16 = .ok (.iconst 0, 1) := by decide +kernel
theorem dX10_clear_17 : decode cX10_clear 17 = .ok (.invokevirtual 190, 3) := by decide +kernel
theorem dX10_clear_20 : decode cX10_clear 20 = .ok (.istore_n 2, 1) := by decide +kernel
theorem dX10_clear_21 : decode cX10_clear 21 = .ok (.aload_n 0, 1) := by decide +kernel
theorem dX10_clear_22 : decode cX10_clear 22 = .ok (.iload_n 1, 1) := by decide +kernel
theorem dX10_clear_23 : decode cX10_clear 23 = .ok (.invokevirtual 135, 3) := by decide +kernel
theorem dX10_clear_26 : decode cX10_clear 26 = .ok (.iload_n 2, 1) := by decide +kernel
theorem dX10_clear_27 : decode cX10_clear 27 = .ok (.ireturn, 1) := by decide +kernel
theorem dX10_mark_0 : decode cX10_mark 0 = .ok (.aload_n 0, 1) := by decide +kernel
theorem dX10_mark_1 : decode cX10_mark 1 = .ok (.iconst 0, 1) := by decide +kernel
theorem dX10_mark_2 : decode cX10_mark 2 = .ok (.putfield 44, 3) := by decide +kernel
theorem dX10_mark_5 : decode cX10_mark 5 = .ok (.aload_n 0, 1) := by decide +kernel
theorem dX10_mark_6 : decode cX10_mark 6 = .ok (.aload_n 0, 1) := by decide +kernel
theorem dX10_mark_7 : decode cX10_mark 7 = .ok (.getfield 7, 3) := by decide +kernel
theorem dX10_mark_10 : decode cX10_mark 10 = .ok (.iconst 4, 1) := by decide +kernel
theorem dX10_mark_11 : decode cX10_mark 11 = .ok (.iaload, 1) := by decide +kernel
theorem dX10_mark_12 : decode cX10_mark 12 = .ok (.bipush 8, 2) := by decide +kernel
theorem dX10_mark_14 : decode cX10_mark 14 = .ok (.if_icmp .ne 7, 3) := by decide +kernel
theorem dX10_mark_17 : decode cX10_mark 17 = .ok (.iconst 1, 1) := by decide +kernel
theorem dX10_mark_18 : decode cX10_mark 18 = .ok (.goto 4, 3) := by decide +kernel
theorem dX10_mark_21 : decode cX10_mark 21 = .ok (.iconst 0, 1) := by decide +kernel
theorem dX10_mark_22 : decode cX10_mark 22 = .ok (.iconst 1, 1) := by decide +kernel
theorem dX10_mark_23 : decode cX10_mark 23 = .ok (.invokevirtual 168, 3) := by decide +kernel
theorem dX10_mark_26 : decode cX10_mark 26 = .ok (.ifCond .eq 5, 3) := by decide +kernel
theorem dX10_mark_29 : decode cX10_mark 29 = .ok (.iconst 0, 1) := by decide +kernel
theorem dX10_mark_30 : decode cX10_mark 30 = .ok (.ireturn, 1) := by decide +kernel
theorem dX10_mark_31 : decode cX10_mark 31 = .ok (.aload_n 0, 1) := by decide +kernel
theorem dX10_mark_32 : decode cX10_mark 32 = .ok (.invokevirtual 279, 3) := by decide +kernel
theorem dX10_mark_35 : decode cX10_mark 35 = .ok (.aload_n 0, 1) := by decide +kernel
theorem dX10_mark_36 : decode cX10_mark 36 = .ok (.invokevirtual 138, 3) := by decide +kernel
theorem dX10_mark_39 : decode cX10_mark 39 = .ok (.ireturn, 1) := by decide +kernel
theorem dX10_open_0 : decode cX10_open 0 = .ok (.aload_n 0, 1) := by decide +kernel
theorem dX10_open_1 : decode cX10_open 1 = .ok (.iload_n 1, 1) := by decide +kernel
theorem dX10_open_2 : decode cX10_open 2 = .ok (.invokevirtual 247, 3) := by decide +kernel
theorem dX10_open_5 : decode cX10_open 5 = .ok (.ifCond .ne 25, 3) := by decide +kernel
theorem dX10_open_8 : decode cX10_open 8 = .ok (.aload_n 0, 1) := by decide +kernel
theorem dX10_open_9 : decode cX10_open 9 = .ok (.aload_n 0, 1) := by decide +kernel
theorem dX10_open_10 : decode cX10_open 10 = .ok (.invokevirtual 241, 3) := by decide +kernel
theorem dX10_open_13 : decode cX10_open 13 = .ok (.bipush 6, 2) := by decide +kernel
theorem dX10_open_15 : decode cX10_open 15 = .ok (.if_icmp .ne 7, 3) := by decide +kernel
theorem dX10_open_18 : decode cX10_open 18 = .ok (.iconst 1, 1) := by decide +kernel
theorem dX10_open_19 : decode cX10_open 19 = .ok (.goto 4, 3) := by decide +kernel
theorem dX10_open_22 : decode cX10_open 22 = .ok (.iconst 0, 1) := by decide +kernel
theorem dX10_open_23 : decode cX10_open 23 = .ok (.iconst 2, 1) := by decide +kernel
theorem dX10_open_24 : decode cX10_open 24 = .ok (.invokevirtual 168, 3) := by decide +kernel
theorem dX10_open_27 : decode cX10_open 27 = .ok (.ifCond .eq 5, 3) := by decide +kernel
theorem dX10_open_30 : decode cX10_open 30 = .ok (.iconst 0, 1) := by decide +kernel
theorem dX10_open_31 : decode cX10_open 31 = .ok (.ireturn, 1) := by decide +kernel
theorem dX10_open_32 : decode cX10_open 32 = .ok (.aload_n 0, 1) := by decide +kernel
theorem dX10_open_33 : decode cX10_open 33 = .ok (.invokevirtual 279, 3) := by decide +kernel
theorem dX10_open_36 : decode cX10_open 36 = .ok (.iconst 0, 1) := by decide +kernel
theorem dX10_open_37 : decode cX10_open 37 = .ok (.istore_n 3, 1) := by decide +kernel
theorem dX10_open_38 : decode cX10_open 38 = .ok (.aload_n 0, 1) := by decide +kernel
theorem dX10_open_39 : decode cX10_open 39 = .ok (.iload_n 3, 1) := by decide +kernel
theorem dX10_open_40 : decode cX10_open 40 = .ok (.iconst 0, 1) := by decide +kernel
theorem dX10_open_41 : decode cX10_open 41 = .ok (.invokevirtual 226, 3) := by decide +kernel
theorem dX10_open_44 : decode cX10_open 44 = .ok (.iconst 1, 1) := by decide +kernel
theorem dX10_open_45 : decode cX10_open 45 = .ok (.if_icmp .ne 9, 3) := by decide +kernel
theorem dX10_open_48 : decode cX10_open 48 = .ok (.iinc 3 1, 3) := by decide +kernel
theorem dX10_open_51 : decode cX10_open 51 = .ok (.goto (-13), 3) := by decide +kernel
theorem dX10_open_54 : decode cX10_open 54 = .ok (.aload_n 0, 1) := by decide +kernel
theorem dX10_open_55 : decode cX10_open 55 = .ok (.iload_n 3, 1) := by decide +kernel
theorem dX10_open_56 : decode cX10_open 56 = .ok (.iconst 0, 1) := by decide +kernel
theorem dX10_open_57 : decode cX10_open 57 = .ok (.iconst 1, 1) := by decide +kernel
theorem dX10_open_58 : decode cX10_open 58 = .ok (.invokevirtual 238, 3) := by decide +kernel
theorem dX10_open_61 : decode cX10_open 61 = .ok (.aload_n 0, 1) := by decide +kernel
theorem dX10_open_62 : decode cX10_open 62 = .ok (.iload_n 3, 1) := by decide +kernel
theorem dX10_open_63 : decode cX10_open 63 = .ok (.iconst 1, 1) := by decide +kernel
theorem dX10_open_64 : decode cX10_open 64 = .ok (.iload_n 1, 1) := by decide +kernel
theorem dX10_open_65 : decode cX10_open 65 = .ok (.invokevirtual 238, 3) := by decide +kernel
theorem dX10_open_68 : decode cX10_open 68 = .ok (.aload_n 0, 1) := by decide +kernel
theorem dX10_open_69 : decode cX10_open 69 = .ok (.iload_n 3, 1) := by decide +kernel
theorem dX10_open_70 : decode cX10_open 70 = .ok (.iconst 2, 1) := by decide +kernel
theorem dX10_open_71 : decode cX10_open 71 = .ok (.iconst 0, 1) := by decide +kernel
theorem dX10_open_72 : decode cX10_open 72 = .ok (.invokevirtual 238, 3) := by decide +kernel
theorem dX10_open_75 : decode cX10_open 75 = .ok (.aload_n 0, 1) := by decide +kernel
theorem dX10_open_76 : decode cX10_open 76 = .ok (.iload_n 3, 1) := by decide +kernel
theorem dX10_open_77 : decode cX10_open 77 = .ok (.iconst 3, 1) := by decide +kernel
theorem dX10_open_78 : decode cX10_open 78 = .ok (.iconst 1, 1) := by decide +kernel
theorem dX10_open_79 : decode cX10_open 79 = .ok (.invokevirtual 238, 3) := by decide +kernel
theorem dX10_open_82 : decode cX10_open 82 = .ok (.aload_n 0, 1) := by decide +kernel
theorem dX10_open_83 : decode cX10_open 83 = .ok (.iload_n 3, 1) := by decide +kernel
theorem dX10_open_84 : decode cX10_open 84 = .ok (.iconst 4, 1) := by decide +kernel
theorem dX10_open_85 : decode cX10_open 85 = .ok (.iload_n 2, 1) := by decide +kernel
theorem dX10_open_86 : decode cX10_open 86 = .ok (.ifCond .eq 7, 3) := by decide +kernel
theorem dX10_open_89 : decode cX10_open 89 = .ok (.iconst 1, 1) := by decide +kernel
theorem dX10_open_90 : decode cX10_open 90 = .ok (.goto 4, 3) := by decide +kernel
theorem dX10_open_93 : decode cX10_open 93 = .ok (.iconst 0, 1) := by decide +kernel
theorem dX10_open_94 : decode cX10_open 94 = .ok (.invokevirtual 238, 3) := by decide +kernel
theorem dX10_open_97 : decode cX10_open 97 = .ok (.aload_n 0, 1) := by decide +kernel
theorem dX10_open_98 : decode cX10_open 98 = .ok (.iload_n 3, 1) := by decide +kernel
theorem dX10_open_99 : decode cX10_open 99 = .ok (.iconst 5, 1) := by decide +kernel
theorem dX10_open_100 : decode cX10_open 100 = .ok (.aload_n 0, 1) := by decide +kernel
theorem dX10_open_101 : decode cX10_open 101 = .ok (.getfield 7, 3) := by decide +kernel
theorem dX10_open_104 : decode cX10_open 104 = .ok (.iconst 3, 1) := by decide +kernel
theorem dX10_open_105 : decode cX10_open 105 = .ok (.iaload, 1) := by decide +kernel
theorem dX10_open_106 : decode cX10_open 106 = .ok (.invokevirtual 238, 3) := by decide +kernel
theorem dX10_open_109 : decode cX10_open 109 = .ok (.aload_n 0, 1) := by decide +kernel
theorem dX10_open_110 : decode cX10_open 110 = .ok (.iload_n 3, 1) := by decide +kernel
theorem dX10_open_111 : decode cX10_open 111 = .ok (.bipush 6, 2) := by decide +kernel
theorem dX10_open_113 : decode cX10_open 113 = .ok (.iconst 0, 1) := by decide +kernel
theorem dX10_open_114 : decode cX10_open 114 = .ok (.invokevirtual 238, 3) := by decide +kernel
theorem dX10_open_117 : decode cX10_open 117 = .ok (.aload_n 0, 1) := by decide +kernel
theorem dX10_open_118 : decode cX10_open 118 = .ok (.iload_n 3, 1) := by decide +kernel
theorem dX10_open_119 : decode cX10_open 119 = .ok (.bipush 7, 2) := by decide +kernel
theorem dX10_open_121 : decode cX10_open 121 = .ok (.iconst 0, 1) := by decide +kernel
theorem dX10_open_122 : decode cX10_open 122 = .ok (.invokevirtual 238, 3) := by decide +kernel
theorem dX10_open_125 : decode cX10_open 125 = .ok (.iload_n 3, 1) := by decide +kernel
theorem dX10_open_126 : decode cX10_open 126 = .ok (.ireturn, 1) := by decide +kernel
theorem dX10_close_0 : decode cX10_close 0 = .ok (.aload_n 0, 1) := by decide +kernel
theorem dX10_close_1 : decode cX10_close 1 = .ok (.iload_n 1, 1) := by decide +kernel
theorem dX10_close_2 : decode cX10_close 2 = .ok (.invokevirtual 267, 3) := by decide +kernel
theorem dX10_close_5 : decode cX10_close 5 = .ok (.ifCond .eq 5, 3) := by decide +kernel
theorem dX10_close_8 : decode cX10_close 8 = .ok (.iconst 0, 1) := by decide +kernel
theorem dX10_close_9 : decode cX10_close 9 = .ok (.ireturn, 1) := by decide +kernel
theorem dX10_close_10 : decode cX10_close 10 = .ok (.aload_n 0, 1) := by decide +kernel
theorem dX10_close_11 : decode cX10_close 11 = .ok (.invokevirtual 279, 3) := by decide +kernel
theorem dX10_close_14 : decode cX10_close 14 = .ok (.aload_n 0, 1) := by decide +kernel
theorem dX10_close_15 : decode cX10_close 15 = .ok (.iload_n 1, 1) := by decide +kernel
theorem dX10_close_16 : decode cX10_close 16 = .ok (.iconst 0, 1) := by decide +kernel
theorem dX10_close_17 : decode cX10_close 17 = .ok (.iconst 0, 1) := by decide +kernel
theorem dX10_close_18 : decode cX10_close 18 = .ok (.invokevirtual 238, 3) := by decide +kernel
theorem dX10_close_21 : decode cX10_close 21 = .ok (.aload_n 0, 1) := by decide +kernel
theorem dX10_close_22 : decode cX10_close 22 = .ok (.iload_n 1, 1) := by decide +kernel
theorem dX10_close_23 : decode cX10_close 23 = .ok (.bipush 6, 2) := by decide +kernel
theorem dX10_close_25 : decode cX10_close 25 = .ok (.invokevirtual 226, 3) := by decide +kernel
theorem dX10_close_28 : decode cX10_close 28 = .ok (.ireturn, 1) := by decide +kernel
theorem dX10_step_0 : decode cX10_step 0 = .ok (.aload_n 0, 1) := by decide +kernel
theorem dX10_step_1 : decode cX10_step 1 = .ok (.iload_n 1, 1) := by decide +kernel
theorem dX10_step_2 : decode cX10_step 2 = .ok (.invokevirtual 267, 3) := by decide +kernel
theorem dX10_step_5 : decode cX10_step 5 = .ok (.ifCond .eq 5, 3) := by decide +kernel
theorem dX10_step_8 : decode cX10_step 8 = .ok (.iconst 0, 1) := by decide +kernel
theorem dX10_step_9 : decode cX10_step 9 = .ok (.ireturn, 1) := by decide +kernel
theorem dX10_step_10 : decode cX10_step 10 = .ok (.aload_n 0, 1) := by decide +kernel
theorem dX10_step_11 : decode cX10_step 11 = .ok (.invokevirtual 279, 3) := by decide +kernel
theorem dX10_step_14 : decode cX10_step 14 = .ok (.aload_n 0, 1) := by decide +kernel
theorem dX10_step_15 : decode cX10_step 15 = .ok (.iload_n 1, 1) := by decide +kernel
theorem dX10_step_16 : decode cX10_step 16 = .ok (.iconst 1, 1) := by decide +kernel
theorem dX10_step_17 : decode cX10_step 17 = .ok (.invokevirtual 226, 3) := by decide +kernel
theorem dX10_step_20 : decode cX10_step 20 = .ok (.istore_n 2, 1) := by decide +kernel
theorem dX10_step_21 : decode cX10_step 21 = .ok (.aload_n 0, 1) := by decide +kernel
theorem dX10_step_22 : decode cX10_step 22 = .ok (.iload_n 1, 1) := by decide +kernel
theorem dX10_step_23 : decode cX10_step 23 = .ok (.iconst 3, 1) := by decide +kernel
theorem dX10_step_24 : decode cX10_step 24 = .ok (.invokevirtual 226, 3) := by decide +kernel
theorem dX10_step_27 : decode cX10_step 27 = .ok (.iconst 1, 1) := by decide +kernel
theorem dX10_step_28 : decode cX10_step 28 = .ok (.if_icmp .ne 97, 3) := by decide +kernel
theorem dX10_step_31 : decode cX10_step 31 = .ok (.aload_n 0, 1) := by decide +kernel
theorem dX10_step_32 : decode cX10_step 32 = .ok (.iload_n 1, 1) := by decide +kernel
theorem dX10_step_33 : decode cX10_step 33 = .ok (.iconst 2, 1) := by decide +kernel
theorem dX10_step_34 : decode cX10_step 34 = .ok (.invokevirtual 226, 3) := by decide +kernel
theorem dX10_step_37 : decode cX10_step 37 = .ok (.aload_n 0, 1) := by decide +kernel
theorem dX10_step_38 : decode cX10_step 38 = .ok (.iload_n 2, 1) := by decide +kernel
theorem dX10_step_39 : decode cX10_step 39 = .ok (.iconst 0, 1) := by decide +kernel
theorem dX10_step_40 : decode cX10_step 40 = .ok (.invokevirtual 190, 3) := by decide +kernel
theorem dX10_step_43 : decode cX10_step 43 = .ok (.if_icmp .ge 82, 3) := by decide +kernel
theorem dX10_step_46 : decode cX10_step 46 = .ok (.aload_n 0, 1) := by decide +kernel
theorem dX10_step_47 : decode cX10_step 47 = .ok (.iload_n 2, 1) := by decide +kernel
theorem dX10_step_48 : decode cX10_step 48 = .ok (.bipush 6, 2) := by decide +kernel
theorem dX10_step_50 : decode cX10_step 50 = .ok (.aload_n 0, 1) := by decide +kernel
theorem dX10_step_51 : decode cX10_step 51 = .ok (.iload_n 1, 1) := by decide +kernel
theorem dX10_step_52 : decode cX10_step 52 = .ok (.iconst 2, 1) := by decide +kernel
theorem dX10_step_53 : decode cX10_step 53 = .ok (.invokevirtual 226, 3) := by decide +kernel
theorem dX10_step_56 : decode cX10_step 56 = .ok (.iadd, 1) := by decide +kernel
theorem dX10_step_57 : decode cX10_step 57 = .ok (.invokevirtual 190, 3) := by decide +kernel
theorem dX10_step_60 : decode cX10_step 60 = .ok (.istore_n 3, 1) := by decide +kernel
theorem dX10_step_61 : decode cX10_step 61 = .ok (.aload_n 0, 1) := by decide +kernel
theorem dX10_step_62 : decode cX10_step 62 = .ok (.iload_n 1, 1) := by decide +kernel
theorem dX10_step_63 : decode cX10_step 63 = .ok (.iconst 2, 1) := by decide +kernel
theorem dX10_step_64 : decode cX10_step 64 = .ok (.aload_n 0, 1) := by decide +kernel
theorem dX10_step_65 : decode cX10_step 65 = .ok (.iload_n 1, 1) := by decide +kernel
theorem dX10_step_66 : decode cX10_step 66 = .ok (.iconst 2, 1) := by decide +kernel
theorem dX10_step_67 : decode cX10_step 67 = .ok (.invokevirtual 226, 3) := by decide +kernel
theorem dX10_step_70 : decode cX10_step 70 = .ok (.iconst 1, 1) := by decide +kernel
theorem dX10_step_71 : decode cX10_step 71 = .ok (.iadd, 1) := by decide +kernel
theorem dX10_step_72 : decode cX10_step 72 = .ok (.invokevirtual 238, 3) := by decide +kernel
theorem dX10_step_75 : decode cX10_step 75 = .ok (.aload_n 0, 1) := by decide +kernel
theorem dX10_step_76 : decode cX10_step 76 = .ok (.getfield 7, 3) := by decide +kernel
theorem dX10_step_79 : decode cX10_step 79 = .ok (.iconst 5, 1) := by decide +kernel
theorem dX10_step_80 : decode cX10_step 80 = .ok (.dup2, 1) := by decide +kernel
theorem dX10_step_81 : decode cX10_step 81 = .ok (.iaload, 1) := by decide +kernel
theorem dX10_step_82 : decode cX10_step 82 = .ok (.iconst 1, 1) := by decide +kernel
theorem dX10_step_83 : decode cX10_step 83 = .ok (.iadd, 1) := by decide +kernel
theorem dX10_step_84 : decode cX10_step 84 = .ok (.iastore, 1) := by decide +kernel
theorem dX10_step_85 : decode cX10_step 85 = .ok (.aload_n 0, 1) := by decide +kernel
theorem dX10_step_86 : decode cX10_step 86 = .ok (.iload_n 1, 1) := by decide +kernel
theorem dX10_step_87 : decode cX10_step 87 = .ok (.iload_n 3, 1) := by decide +kernel
theorem dX10_step_88 : decode cX10_step 88 = .ok (.invokevirtual 270, 3) := by decide +kernel
theorem dX10_step_91 : decode cX10_step 91 = .ok (.ifCond .eq 31, 3) := by decide +kernel
theorem dX10_step_94 : decode cX10_step 94 = .ok (.aload_n 0, 1) := by decide +kernel
theorem dX10_step_95 : decode cX10_step 95 = .ok (.iload_n 1, 1) := by decide +kernel
theorem dX10_step_96 : decode cX10_step 96 = .ok (.bipush 6, 2) := by decide +kernel
theorem dX10_step_98 : decode cX10_step 98 = .ok (.aload_n 0, 1) := by decide +kernel
theorem dX10_step_99 : decode cX10_step 99 = .ok (.iload_n 1, 1) := by decide +kernel
theorem dX10_step_100 : decode cX10_step 100 = .ok (.bipush 6, 2) := by decide +kernel
theorem dX10_step_102 : decode cX10_step 102 = .ok (.invokevirtual 226, 3) := by decide +kernel
theorem dX10_step_105 : decode cX10_step 105 = .ok (.iconst 1, 1) := by decide +kernel
theorem dX10_step_106 : decode cX10_step 106 = .ok (.iadd, 1) := by decide +kernel
theorem dX10_step_107 : decode cX10_step 107 = .ok (.invokevirtual 238, 3) := by decide +kernel
theorem dX10_step_110 : decode cX10_step 110 = .ok (.aload_n 0, 1) := by decide +kernel
theorem dX10_step_111 : decode cX10_step 111 = .ok (.iload_n 1, 1) := by decide +kernel
theorem dX10_step_112 : decode cX10_step 112 = .ok (.bipush 7, 2) := by decide +kernel
theorem dX10_step_114 : decode cX10_step 114 = .ok (.iload_n 3, 1) := by decide +kernel
theorem dX10_step_115 : decode cX10_step 115 = .ok (.iconst 1, 1) := by decide +kernel
theorem dX10_step_116 : decode cX10_step 116 = .ok (.iadd, 1) := by decide +kernel
theorem dX10_step_117 : decode cX10_step 117 = .ok (.invokevirtual 238, 3) := by decide +kernel
theorem dX10_step_120 : decode cX10_step 120 = .ok (.iload_n 3, 1) := by decide +kernel
theorem dX10_step_121 : decode cX10_step 121 = .ok (.ireturn, 1) := by decide +kernel
theorem dX10_step_122 : decode cX10_step 122 = .ok (.goto (-101), 3) := by decide +kernel
theorem dX10_step_125 : decode cX10_step 125 = .ok (.aload_n 0, 1) := by decide +kernel
theorem dX10_step_126 : decode cX10_step 126 = .ok (.iload_n 1, 1) := by decide +kernel
theorem dX10_step_127 : decode cX10_step 127 = .ok (.iconst 3, 1) := by decide +kernel
theorem dX10_step_128 : decode cX10_step 128 = .ok (.iconst 0, 1) := by decide +kernel
theorem dX10_step_129 : decode cX10_step 129 = .ok (.invokevirtual 238, 3) := by decide +kernel
theorem dX10_step_132 : decode cX10_step 132 = .ok (.iconst (-1), 1) := by decide +kernel
theorem dX10_step_133 : decode cX10_step 133 = .ok (.ireturn, 1) := by decide +kernel
theorem dX10_removeMet_0 : decode cX10_removeMet 0 = .ok (.aload_n 0, 1) := by decide +kernel
theorem dX10_removeMet_1 : decode cX10_removeMet 1 = .ok (.iload_n 1, 1) := by decide +kernel
theorem dX10_removeMet_2 : decode cX10_removeMet 2 = .ok (.invokevirtual 267, 3) := by decide +kernel
theorem dX10_removeMet_5 : decode cX10_removeMet 5 = .ok (.ifCond .eq 5, 3) := by decide +kernel
theorem dX10_removeMet_8 : decode cX10_removeMet 8 = .ok (.iconst 0, 1) := by decide +kernel
theorem dX10_removeMet_9 : decode cX10_removeMet 9 = .ok (.ireturn, 1) := by decide +kernel
theorem dX10_removeMet_10 : decode cX10_removeMet 10 = .ok (.aload_n 0, 1) := by decide +kernel
theorem dX10_removeMet_11 : decode cX10_removeMet 11 = .ok (.iload_n 1, 1) := by decide +kernel
theorem dX10_removeMet_12 : decode cX10_removeMet 12 = .ok (.iconst 1, 1) := by decide +kernel
theorem dX10_removeMet_13 : decode cX10_removeMet 13 = .ok (.invokevirtual 226, 3) := by decide +kernel
theorem dX10_removeMet_16 : decode cX10_removeMet 16 = .ok (.istore_n 2, 1) := by decide +kernel
theorem dX10_removeMet_17 : decode cX10_removeMet 17 = .ok (.aload_n 0, 1) := by decide +kernel
theorem dX10_removeMet_18 : decode cX10_removeMet 18 = .ok (.iload_n 1, 1) := by decide +kernel
theorem dX10_removeMet_19 : decode cX10_removeMet 19 = .ok (.bipush 7, 2) := by decide +kernel
theorem dX10_removeMet_21 : decode cX10_removeMet 21 = .ok (.invokevirtual 226, 3) := by decide +kernel
theorem dX10_removeMet_24 : decode cX10_removeMet 24 = .ok (.iconst 1, 1) := by decide +kernel
theorem dX10_removeMet_25 : decode cX10_removeMet 25 = .ok (.isub, 1) := by decide +kernel
theorem dX10_removeMet_26 : decode cX10_removeMet 26 = .ok (.istore_n 3, 1) := by decide +kernel
theorem dX10_removeMet_27 : decode cX10_removeMet 27 = .ok (.aload_n 0, 1) := by decide +kernel
theorem dX10_removeMet_28 : decode cX10_removeMet 28 = .ok (.iload_n 3, 1) := by decide +kernel
theorem dX10_removeMet_29 : decode cX10_removeMet 29 = .ok (.iconst (-1), 1) := by decide +kernel
theorem dX10_removeMet_30 : decode cX10_removeMet 30 = .ok (.if_icmp .eq 12, 3) := by decide +kernel
theorem dX10_removeMet_33 : decode cX10_removeMet 33 = .ok (.aload_n 0, 1) := by decide +kernel
theorem dX10_removeMet_34 : decode cX10_removeMet 34 = .ok (.iload_n 1, 1) := by decide +kernel
theorem dX10_removeMet_35 : decode cX10_removeMet 35 = .ok (.iconst 3, 1) := by decide +kernel
theorem dX10_removeMet_36 : decode cX10_removeMet 36 = .ok (.invokevirtual 226, 3) := by decide +kernel
theorem dX10_removeMet_39 : decode cX10_removeMet 39 = .ok (.ifCond .ne 7, 3) := by decide +kernel
theorem dX10_removeMet_42 : decode cX10_removeMet 42 = .ok (.iconst 1, 1) := by decide +kernel
theorem dX10_removeMet_43 : decode cX10_removeMet 43 = .ok (.goto 4, 3) := by decide +kernel
theorem dX10_removeMet_46 : decode cX10_removeMet 46 = .ok (.iconst 0, 1) := by decide +kernel
theorem dX10_removeMet_47 : decode cX10_removeMet 47 = .ok (.iconst 2, 1) := by decide +kernel
theorem dX10_removeMet_48 : decode cX10_removeMet 48 = .ok (.invokevirtual 168, 3) := by decide +kernel
theorem dX10_removeMet_51 : decode cX10_removeMet 51 = .ok (.ifCond .ne 25, 3) := by decide +kernel
theorem dX10_removeMet_54 : decode cX10_removeMet 54 = .ok (.aload_n 0, 1) := by decide +kernel
theorem dX10_removeMet_55 : decode cX10_removeMet 55 = .ok (.aload_n 0, 1) := by decide +kernel
theorem dX10_removeMet_56 : decode cX10_removeMet 56 = .ok (.iload_n 2, 1) := by decide +kernel
theorem dX10_removeMet_57 : decode cX10_removeMet 57 = .ok (.iload_n 3, 1) := by decide +kernel
theorem dX10_removeMet_58 : decode cX10_removeMet 58 = .ok (.invokevirtual 129, 3) := by decide +kernel
theorem dX10_removeMet_61 : decode cX10_removeMet 61 = .ok (.ifCond .ne 7, 3) := by decide +kernel
theorem dX10_removeMet_64 : decode cX10_removeMet 64 = .ok (.iconst 1, 1) := by decide +kernel
theorem dX10_removeMet_65 : decode cX10_removeMet 65 = .ok (.goto 4, 3) := by decide +kernel
theorem dX10_removeMet_68 : decode cX10_removeMet 68 = .ok (.iconst 0, 1) := by decide +kernel
theorem dX10_removeMet_69 : decode cX10_removeMet 69 = .ok (.iconst 2, 1) := by decide +kernel
theorem dX10_removeMet_70 : decode cX10_removeMet 70 = .ok (.invokevirtual 168, 3) := by decide +kernel
theorem dX10_removeMet_73 : decode cX10_removeMet 73 = .ok (.ifCond .eq 5, 3) := by decide +kernel
theorem dX10_removeMet_76 : decode cX10_removeMet 76 = .ok (.iconst 0, 1) := by decide +kernel
theorem dX10_removeMet_77 : decode cX10_removeMet 77 = .ok (.ireturn, 1) := by decide +kernel
theorem dX10_removeMet_78 : decode cX10_removeMet 78 = .ok (.aload_n 0, 1) := by decide +kernel
theorem dX10_removeMet_79 : decode cX10_removeMet 79 = .ok (.invokevirtual 279, 3) := by decide +kernel
theorem dX10_removeMet_82 : decode cX10_removeMet 82 = .ok (.aload_n 0, 1) := by decide +kernel
theorem dX10_removeMet_83 : decode cX10_removeMet 83 = .ok (.iload_n 2, 1) := by decide +kernel
theorem dX10_removeMet_84 : decode cX10_removeMet 84 = .ok (.iload_n 3, 1) := by decide +kernel
theorem dX10_removeMet_85 : decode cX10_removeMet 85 = .ok (.invokevirtual 132, 3) := by decide +kernel
theorem dX10_removeMet_88 : decode cX10_removeMet 88 = .ok (.iload_n 3, 1) := by decide +kernel
theorem dX10_removeMet_89 : decode cX10_removeMet 89 = .ok (.ireturn, 1) := by decide +kernel
theorem dX10_keep_0 : decode cX10_keep 0 = .ok (.aload_n 0, 1) := by decide +kernel
theorem dX10_keep_1 : decode cX10_keep 1 = .ok (.iload_n 1, 1) := by decide +kernel
theorem dX10_keep_2 : decode cX10_keep 2 = .ok (.iload_n 2, 1) := by decide +kernel
theorem dX10_keep_3 : decode cX10_keep 3 = .ok (.invokevirtual 273, 3) := by decide +kernel
theorem dX10_keep_6 : decode cX10_keep 6 = .ok (.ifCond .eq 5, 3) := by decide +kernel
theorem dX10_keep_9 : decode cX10_keep 9 = .ok (.iconst 0, 1) := by decide +kernel
theorem dX10_keep_10 : decode cX10_keep 10 = .ok (.ireturn, 1) := by decide +kernel
theorem dX10_keep_11 : decode cX10_keep 11 = .ok (.aload_n 0, 1) := by decide +kernel
theorem dX10_keep_12 : decode cX10_keep 12 = .ok (.invokevirtual 279, 3) := by decide +kernel
theorem dX10_keep_15 : decode cX10_keep 15 = .ok (.iconst 0, 1) := by decide +kernel
theorem dX10_keep_16 : decode cX10_keep 16 = .ok (.istore_n 3, 1) := by decide +kernel
theorem dX10_keep_17 : decode cX10_keep 17 = .ok (.aload_n 0, 1) := by decide +kernel
theorem dX10_keep_18 : decode cX10_keep 18 = .ok (.iload_n 1, 1) := by decide +kernel
theorem dX10_keep_19 : decode cX10_keep 19 = .ok (.iconst 0, 1) := by decide +kernel
theorem dX10_keep_20 : decode cX10_keep 20 = .ok (.invokevirtual 190, 3) := by decide +kernel
theorem dX10_keep_23 : decode cX10_keep 23 = .ok (.iconst 1, 1) := by decide +kernel
theorem dX10_keep_24 : decode cX10_keep 24 = .ok (.isub, 1) := by decide +kernel
theorem dX10_keep_25 : decode cX10_keep 25 = .ok (.istore 4, 2) := by decide +kernel
theorem dX10_keep_27 : decode cX10_keep 27 = .ok (.iload 4, 2) := by decide +kernel
theorem dX10_keep_29 : decode cX10_keep 29 = .ok (.ifCond .lt 41, 3) := by decide +kernel
theorem dX10_keep_32 : decode cX10_keep 32 = .ok (.aload_n 0, 1) := by decide +kernel
theorem dX10_keep_33 : decode cX10_keep 33 = .ok (.iload_n 1, 1) := by decide +kernel
theorem dX10_keep_34 : decode cX10_keep 34 = .ok (.bipush 6, 2) := by decide +kernel
theorem dX10_keep_36 : decode cX10_keep 36 = .ok (.iload 4, 2) := by decide +kernel
theorem dX10_keep_38 : decode cX10_keep 38 = .ok (.iadd, 1) := by decide +kernel
theorem dX10_keep_39 : decode cX10_keep 39 = .ok (.invokevirtual 190, 3) := by decide +kernel
theorem dX10_keep_42 : decode cX10_keep 42 = .ok (.istore 5, 2) := by decide +kernel
theorem dX10_keep_44 : decode cX10_keep 44 = .ok (.aload_n 0, 1) := by decide +kernel
theorem dX10_keep_45 : decode cX10_keep 45 = .ok (.iload_n 2, 1) := by decide +kernel
theorem dX10_keep_46 : decode cX10_keep 46 = .ok (.iload 5, 2) := by decide +kernel
theorem dX10_keep_48 : decode cX10_keep 48 = .ok (.invokevirtual 129, 3) := by decide +kernel
theorem dX10_keep_51 : decode cX10_keep 51 = .ok (.ifCond .ne 13, 3) := by decide +kernel
theorem dX10_keep_54 : decode cX10_keep 54 = .ok (.aload_n 0, 1) := by decide +kernel
theorem dX10_keep_55 : decode cX10_keep 55 = .ok (.iload_n 1, 1) := by decide +kernel
theorem dX10_keep_56 : decode cX10_keep 56 = .ok (.iload 5, 2) := by decide +kernel
theorem dX10_keep_58 : decode cX10_keep 58 = .ok (.invokevirtual 132, 3) := by decide +kernel
theorem dX10_keep_61 : decode cX10_keep 61 = .ok (.iinc 3 1, 3) := by decide +kernel
theorem dX10_keep_64 : decode cX10_keep 64 = .ok (.iinc 4 (-1), 3) := by decide +kernel
theorem dX10_keep_67 : decode cX10_keep 67 = .ok (.goto (-40), 3) := by decide +kernel
theorem dX10_keep_70 : decode cX10_keep 70 = .ok (.iload_n 3, 1) := by decide +kernel
theorem dX10_keep_71 : decode cX10_keep 71 = .ok (.ireturn, 1) := by decide +kernel
theorem dX10_unite_0 : decode cX10_unite 0 = .ok (.aload_n 0, 1) := by decide +kernel
theorem dX10_unite_1 : decode cX10_unite 1 = .ok (.iload_n 1, 1) := by decide +kernel
theorem dX10_unite_2 : decode cX10_unite 2 = .ok (.iload_n 2, 1) := by decide +kernel
theorem dX10_unite_3 : decode cX10_unite 3 = .ok (.invokevirtual 273, 3) := by decide +kernel
theorem dX10_unite_6 : decode cX10_unite 6 = .ok (.ifCond .eq 5, 3) := by decide +kernel
theorem dX10_unite_9 : decode cX10_unite 9 = .ok (.iconst 0, 1) := by decide +kernel
theorem dX10_unite_10 : decode cX10_unite 10 = .ok (.ireturn, 1) := by decide +kernel
theorem dX10_unite_11 : decode cX10_unite 11 = .ok (.aload_n 0, 1) := by decide +kernel
theorem dX10_unite_12 : decode cX10_unite 12 = .ok (.invokevirtual 279, 3) := by decide +kernel
theorem dX10_unite_15 : decode cX10_unite 15 = .ok (.aload_n 0, 1) := by decide +kernel
theorem dX10_unite_16 : decode cX10_unite 16 = .ok (.iload_n 1, 1) := by decide +kernel
theorem dX10_unite_17 : decode cX10_unite 17 = .ok (.iconst 0, 1) := by decide +kernel
theorem dX10_unite_18 : decode cX10_unite 18 = .ok (.invokevirtual 190, 3) := by decide +kernel
theorem dX10_unite_21 : decode cX10_unite 21 = .ok (.istore_n 3, 1) := by decide +kernel
theorem dX10_unite_22 : decode cX10_unite 22 = .ok (.iconst 0, 1) := by decide +kernel
theorem dX10_unite_23 : decode cX10_unite 23 = .ok (.istore 4, 2) := by decide +kernel
theorem dX10_unite_25 : decode cX10_unite 25 = .ok (.iload 4, 2) := by decide +kernel
theorem dX10_unite_27 : decode cX10_unite 27 = .ok (.aload_n 0, 1) := by decide +kernel
theorem dX10_unite_28 : decode cX10_unite 28 = .ok (.iload_n 2, 1) := by decide +kernel
theorem dX10_unite_29 : decode cX10_unite 29 = .ok (.iconst 0, 1) := by decide +kernel
theorem dX10_unite_30 : decode cX10_unite 30 = .ok (.invokevirtual 190, 3) := by decide +kernel
theorem dX10_unite_33 : decode cX10_unite 33 = .ok (.if_icmp .ge 29, 3) := by decide +kernel
theorem dX10_unite_36 : decode cX10_unite 36 = .ok (.iload_n 1, 1) := by decide +kernel
theorem dX10_unite_37 : decode cX10_unite 37 = .ok (.iload_n 2, 1) := by decide +kernel
theorem dX10_unite_38 : decode cX10_unite 38 = .ok (.if_icmp .eq 24, 3) := by decide +kernel
theorem dX10_unite_41 : decode cX10_unite 41 = .ok (.aload_n 0, 1) := by decide +kernel
theorem dX10_unite_42 : decode cX10_unite 42 = .ok (.iload_n 1, 1) := by decide +kernel
theorem dX10_unite_43 : decode cX10_unite 43 = .ok (.aload_n 0, 1) := by decide +kernel
theorem dX10_unite_44 : decode cX10_unite 44 = .ok (.iload_n 2, 1) := by decide +kernel
theorem dX10_unite_45 : decode cX10_unite 45 = .ok (.bipush 6, 2) := by decide +kernel
theorem dX10_unite_47 : decode cX10_unite 47 = .ok (.iload 4, 2) := by decide +kernel
theorem dX10_unite_49 : decode cX10_unite 49 = .ok (.iadd, 1) := by decide +kernel
theorem dX10_unite_50 : decode cX10_unite 50 = .ok (.invokevirtual 190, 3) := by decide +kernel
theorem dX10_unite_53 : decode cX10_unite 53 = .ok (.invokevirtual 125, 3) := by decide +kernel
theorem dX10_unite_56 : decode cX10_unite 56 = .ok (.iinc 4 1, 3) := by decide +kernel
theorem dX10_unite_59 : decode cX10_unite 59 = .ok (.goto (-34), 3) := by decide +kernel
theorem dX10_unite_62 : decode cX10_unite 62 = .ok (.aload_n 0, 1) := by decide +kernel
theorem dX10_unite_63 : decode cX10_unite 63 = .ok (.iload_n 1, 1) := by decide +kernel
theorem dX10_unite_64 : decode cX10_unite 64 = .ok (.iconst 0, 1) := by decide +kernel
theorem dX10_unite_65 : decode cX10_unite 65 = .ok (.invokevirtual 190, 3) := by decide +kernel
theorem dX10_unite_68 : decode cX10_unite 68 = .ok (.iload_n 3, 1) := by decide +kernel
theorem dX10_unite_69 : decode cX10_unite 69 = .ok (.isub, 1) := by decide +kernel
theorem dX10_unite_70 : decode cX10_unite 70 = .ok (.ireturn, 1) := by decide +kernel
theorem dX10_undo_0 : decode cX10_undo 0 = .ok (.aload_n 0, 1) := by decide +kernel
theorem dX10_undo_1 : decode cX10_undo 1 = .ok (.iconst 0, 1) := by decide +kernel
theorem dX10_undo_2 : decode cX10_undo 2 = .ok (.putfield 44, 3) := by decide +kernel
theorem dX10_undo_5 : decode cX10_undo 5 = .ok (.aload_n 0, 1) := by decide +kernel
theorem dX10_undo_6 : decode cX10_undo 6 = .ok (.getfield 187, 3) := by decide +kernel
theorem dX10_undo_9 : decode cX10_undo 9 = .ok (.ifCond .ne 5, 3) := by decide +kernel
theorem dX10_undo_12 : decode cX10_undo 12 = .ok (.iconst (-1), 1) := by decide +kernel
theorem dX10_undo_13 : decode cX10_undo 13 = .ok (.ireturn, 1) := by decide +kernel
theorem dX10_undo_14 : decode cX10_undo 14 = .ok (.aload_n 0, 1) := by decide +kernel
theorem dX10_undo_15 : decode cX10_undo 15 = .ok (.dup, 1) := by decide +kernel
theorem dX10_undo_16 : decode cX10_undo 16 = .ok (.getfield 187, 3) := by decide +kernel
theorem dX10_undo_19 : decode cX10_undo 19 = .ok (.iconst 1, 1) := by decide +kernel
theorem dX10_undo_20 : decode cX10_undo 20 = .ok (.isub, 1) := by decide +kernel
theorem dX10_undo_21 : decode cX10_undo 21 = .ok (.putfield 187, 3) := by decide +kernel
theorem dX10_undo_24 : decode cX10_undo 24 = .ok (.aload_n 0, 1) := by decide +kernel
theorem dX10_undo_25 : decode cX10_undo 25 = .ok (.getfield 34, 3) := by decide +kernel
theorem dX10_undo_28 : decode cX10_undo 28 = .ok (.sipush 1952, 3) := by decide +kernel
theorem dX10_undo_31 : decode cX10_undo 31 = .ok (.aload_n 0, 1) := by decide +kernel
theorem dX10_undo_32 : decode cX10_undo 32 = .ok (.getfield 187, 3) := by decide +kernel
theorem dX10_undo_35 : decode cX10_undo 35 = .ok (.imul, 1) := by decide +kernel
theorem dX10_undo_36 : decode cX10_undo 36 = .ok (.aload_n 0, 1) := by decide +kernel
theorem dX10_undo_37 : decode cX10_undo 37 = .ok (.getfield 7, 3) := by decide +kernel
theorem dX10_undo_40 : decode cX10_undo 40 = .ok (.iconst 0, 1) := by decide +kernel
theorem dX10_undo_41 : decode cX10_undo 41 = .ok (.invokestatic 172, 3) := by decide +kernel
theorem dX10_undo_44 : decode cX10_undo 44 = .ok (.aload_n 0, 1) := by decide +kernel
theorem dX10_undo_45 : decode cX10_undo 45 = .ok (.getfield 187, 3) := by decide +kernel
theorem dX10_undo_48 : decode cX10_undo 48 = .ok (.ireturn, 1) := by decide +kernel
theorem dX10_noSlot_0 : decode cX10_noSlot 0 = .ok (.aload_n 0, 1) := by decide +kernel
theorem dX10_noSlot_1 : decode cX10_noSlot 1 = .ok (.iconst 0, 1) := by decide +kernel
theorem dX10_noSlot_2 : decode cX10_noSlot 2 = .ok (.putfield 44, 3) := by decide +kernel
theorem dX10_noSlot_5 : decode cX10_noSlot 5 = .ok (.aload_n 0, 1) := by decide +kernel
theorem dX10_noSlot_6 : decode cX10_noSlot 6 = .ok (.iload_n 1, 1) := by decide +kernel
theorem dX10_noSlot_7 : decode cX10_noSlot 7 = .ok (.iconst 2, 1) := by decide +kernel
theorem dX10_noSlot_8 : decode cX10_noSlot 8 = .ok (.invokevirtual 244, 3) := by decide +kernel
theorem dX10_noSlot_11 : decode cX10_noSlot 11 = .ok (.ireturn, 1) := by decide +kernel
theorem dX10_saveSnapshot_0 : decode cX10_saveSnapshot 0 = .ok (.aload_n 0, 1) := by decide +kernel
theorem dX10_saveSnapshot_1 : decode cX10_saveSnapshot 1 = .ok (.iload_n 1, 1) := by decide +kernel
theorem dX10_saveSnapshot_2 : decode cX10_saveSnapshot 2 = .ok (.invokevirtual 282, 3) := by decide +kernel
theorem dX10_saveSnapshot_5 : decode cX10_saveSnapshot 5 = .ok (.ifCond .eq 5, 3) := by decide +kernel
theorem dX10_saveSnapshot_8 : decode cX10_saveSnapshot 8 = .ok (.iconst 0, 1) := by decide +kernel
theorem dX10_saveSnapshot_9 : decode cX10_saveSnapshot 9 = .ok (.ireturn, 1) := by decide +kernel
theorem dX10_saveSnapshot_10 : decode cX10_saveSnapshot 10 = .ok (.aload_n 0, 1) := by decide +kernel
theorem dX10_saveSnapshot_11 : decode cX10_saveSnapshot 11 = .ok (.getfield 40, 3) := by decide +kernel
theorem dX10_saveSnapshot_14 : decode cX10_saveSnapshot 14 = .ok (.iload_n 1, 1) := by decide +kernel
theorem dX10_saveSnapshot_15 : decode cX10_saveSnapshot 15 = .ok (.baload, 1) := by decide +kernel
theorem dX10_saveSnapshot_16 : decode cX10_saveSnapshot 16 = .ok (.istore_n 2, 1) := by decide +kernel
theorem dX10_saveSnapshot_17 : decode cX10_saveSnapshot 17 = .ok (.aload_n 0, 1) := by decide +kernel
theorem dX10_saveSnapshot_18 : decode cX10_saveSnapshot 18 = .ok (.getfield 7, 3) := by decide +kernel
theorem dX10_saveSnapshot_21 : decode cX10_saveSnapshot 21 = .ok (.iconst 0, 1) := by decide +kernel
theorem dX10_saveSnapshot_22 : decode cX10_saveSnapshot 22 = .ok (.aload_n 0, 1) := by decide +kernel
theorem dX10_saveSnapshot_23 : decode cX10_saveSnapshot 23 = .ok (.getfield 37, 3) := by decide +kernel
theorem dX10_saveSnapshot_26 : decode cX10_saveSnapshot 26 = .ok (.sipush 1952, 3) := by decide +kernel
theorem dX10_saveSnapshot_29 : decode cX10_saveSnapshot 29 = .ok (.iload_n 1, 1) := by decide +kernel
theorem dX10_saveSnapshot_30 : decode cX10_saveSnapshot 30 = .ok (.imul, 1) := by decide +kernel
theorem dX10_saveSnapshot_31 : decode cX10_saveSnapshot 31 = .ok (.invokestatic 172, 3) := by decide +kernel
theorem dX10_saveSnapshot_34 : decode cX10_saveSnapshot 34 = .ok (.aload_n 0, 1) := by decide +kernel
theorem dX10_saveSnapshot_35 : decode cX10_saveSnapshot 35 = .ok (.getfield 40, 3) := by decide +kernel
theorem dX10_saveSnapshot_38 : decode cX10_saveSnapshot 38 = .ok (.iload_n 1, 1) := by decide +kernel
theorem dX10_saveSnapshot_39 : decode cX10_saveSnapshot 39 = .ok (.iconst 1, 1) := by decide +kernel
theorem dX10_saveSnapshot_40 : decode cX10_saveSnapshot 40 = .ok (.bastore, 1) := by decide +kernel
theorem dX10_saveSnapshot_41 : decode cX10_saveSnapshot 41 = .ok (.iload_n 2, 1) := by decide +kernel
theorem dX10_saveSnapshot_42 : decode cX10_saveSnapshot 42 = .ok (.ireturn, 1) := by decide +kernel
theorem dX10_restoreSnapshot_0 : decode cX10_restoreSnapshot 0 = .ok (.aload_n 0, 1) := by decide +kernel
theorem dX10_restoreSnapshot_1 : decode cX10_restoreSnapshot 1 = .ok (.iload_n 1, 1) := by decide +kernel
theorem dX10_restoreSnapshot_2 : decode cX10_restoreSnapshot 2 = .ok (.invokevirtual 282, 3) := by decide +kernel
theorem dX10_restoreSnapshot_5 : decode cX10_restoreSnapshot 5 = .ok (.ifCond .ne 25, 3) := by decide +kernel
theorem dX10_restoreSnapshot_8 : decode cX10_restoreSnapshot 8 = .ok (.aload_n 0, 1) := by decide +kernel
theorem dX10_restoreSnapshot_9 : decode cX10_restoreSnapshot 9 = .ok (.aload_n 0, 1) := by decide +kernel
theorem dX10_restoreSnapshot_10 : decode cX10_restoreSnapshot 10 = .ok (.getfield 40, 3) := by decide +kernel
theorem dX10_restoreSnapshot_13 : decode cX10_restoreSnapshot 13 = .ok (.iload_n 1, 1) := by decide +kernel
theorem dX10_restoreSnapshot_14 : decode cX10_restoreSnapshot 14 = .ok (.baload, 1) := by decide +kernel
theorem dX10_restoreSnapshot_15 : decode cX10_restoreSnapshot 15 = .ok (.ifCond .ne 7, 3) := by decide +kernel
theorem dX10_restoreSnapshot_18 : decode cX10_restoreSnapshot 18 = .ok (.iconst 1, 1) := by decide +kernel
theorem dX10_restoreSnapshot_19 : decode cX10_restoreSnapshot 19 = .ok (.goto 4, 3) := by decide +kernel
theorem dX10_restoreSnapshot_22 : decode cX10_restoreSnapshot 22 = .ok (.iconst 0, 1) := by decide +kernel
theorem dX10_restoreSnapshot_23 : decode cX10_restoreSnapshot 23 = .ok (.iconst 2, 1) := by decide +kernel
theorem dX10_restoreSnapshot_24 : decode cX10_restoreSnapshot 24 = .ok (.invokevirtual 168, 3) := by decide +kernel
theorem dX10_restoreSnapshot_27 : decode cX10_restoreSnapshot 27 = .ok (.ifCond .eq 5, 3) := by decide +kernel
theorem dX10_restoreSnapshot_30 : decode cX10_restoreSnapshot 30 = .ok (.iconst 0, 1) := by decide +kernel
theorem dX10_restoreSnapshot_31 : decode cX10_restoreSnapshot 31 = .ok (.ireturn, 1) := by decide +kernel
theorem dX10_restoreSnapshot_32 : decode cX10_restoreSnapshot 32 = .ok (.aload_n 0, 1) := by decide +kernel
theorem dX10_restoreSnapshot_33 : decode cX10_restoreSnapshot 33 = .ok (.getfield 37, 3) := by decide +kernel
theorem dX10_restoreSnapshot_36 : decode cX10_restoreSnapshot 36 = .ok (.sipush 1952, 3) := by decide +kernel
theorem dX10_restoreSnapshot_39 : decode cX10_restoreSnapshot 39 = .ok (.iload_n 1, 1) := by decide +kernel
theorem dX10_restoreSnapshot_40 : decode cX10_restoreSnapshot 40 = .ok (.imul, 1) := by decide +kernel
theorem dX10_restoreSnapshot_41 : decode cX10_restoreSnapshot 41 = .ok (.aload_n 0, 1) := by decide +kernel
theorem dX10_restoreSnapshot_42 : decode cX10_restoreSnapshot 42 = .ok (.getfield 7, 3) := by decide +kernel
theorem dX10_restoreSnapshot_45 : decode cX10_restoreSnapshot 45 = .ok (.iconst 0, 1) := by decide +kernel
theorem dX10_restoreSnapshot_46 : decode cX10_restoreSnapshot 46 = .ok (.invokestatic 172, 3) := by decide +kernel
theorem dX10_restoreSnapshot_49 : decode cX10_restoreSnapshot 49 = .ok (.aload_n 0, 1) := by decide +kernel
theorem dX10_restoreSnapshot_50 : decode cX10_restoreSnapshot 50 = .ok (.iconst 0, 1) := by decide +kernel
theorem dX10_restoreSnapshot_51 : decode cX10_restoreSnapshot 51 = .ok (.putfield 187, 3) := by decide +kernel
theorem dX10_restoreSnapshot_54 : decode cX10_restoreSnapshot 54 = .ok (.aload_n 0, 1) := by decide +kernel
theorem dX10_restoreSnapshot_55 : decode cX10_restoreSnapshot 55 = .ok (.getfield 7, 3) := by decide +kernel
theorem dX10_restoreSnapshot_58 : decode cX10_restoreSnapshot 58 = .ok (.iconst 3, 1) := by decide +kernel
theorem dX10_restoreSnapshot_59 : decode cX10_restoreSnapshot 59 = .ok (.iaload, 1) := by decide +kernel
theorem dX10_restoreSnapshot_60 : decode cX10_restoreSnapshot 60 = .ok (.ireturn, 1) := by decide +kernel
theorem dX0_init_0 : decode cX0_init 0 = .ok (.aload_n 0, 1) := by decide +kernel
theorem dX0_init_1 : decode cX0_init 1 = .ok (.invokespecial 3, 3) := by decide +kernel
theorem dX0_init_4 : decode cX0_init 4 = .ok (.return_, 1) := by decide +kernel
theorem dX0_begin_0 : decode cX0_begin 0 = .ok (.aload_n 0, 1) := by decide +kernel
theorem dX0_begin_1 : decode cX0_begin 1 = .ok (.iconst 1, 1) := by decide +kernel
theorem dX0_begin_2 : decode cX0_begin 2 = .ok (.putfield 9, 3) := by decide +kernel
theorem dX0_begin_5 : decode cX0_begin 5 = .ok (.aload_n 0, 1) := by decide +kernel
theorem dX0_begin_6 : decode cX0_begin 6 = .ok (.iconst 1, 1) := by decide +kernel
theorem dX0_begin_7 : decode cX0_begin 7 = .ok (.putfield 15, 3) := by decide +kernel
theorem dX0_begin_10 : decode cX0_begin 10 = .ok (.aload_n 0, 1) := by decide +kernel
theorem dX0_begin_11 : decode cX0_begin 11 = .ok (.iload_n 2, 1) := by decide +kernel
theorem dX0_begin_12 : decode cX0_begin 12 = .ok (.putfield 18, 3) := by decide +kernel
theorem dX0_begin_15 : decode cX0_begin 15 = .ok (.aload_n 0, 1) := by decide +kernel
theorem dX0_begin_16 : decode cX0_begin 16 = .ok (.iload_n 1, 1) := by decide +kernel
theorem dX0_begin_17 : decode cX0_begin 17 = .ok (.putfield 21, 3) := by decide +kernel
theorem dX0_begin_20 : decode cX0_begin 20 = .ok (.aload_n 0, 1) := by decide +kernel
theorem dX0_begin_21 : decode cX0_begin 21 = .ok (.iconst 0, 1) := by decide +kernel
theorem dX0_begin_22 : decode cX0_begin 22 = .ok (.putfield 25, 3) := by decide +kernel
theorem dX0_begin_25 : decode cX0_begin 25 = .ok (.aload_n 0, 1) := by decide +kernel
theorem dX0_begin_26 : decode cX0_begin 26 = .ok (.iload_n 3, 1) := by decide +kernel
theorem dX0_begin_27 : decode cX0_begin 27 = .ok (.putfield 28, 3) := by decide +kernel
theorem dX0_begin_30 : decode cX0_begin 30 = .ok (.aload_n 0, 1) := by decide +kernel
theorem dX0_begin_31 : decode cX0_begin 31 = .ok (.iconst 0, 1) := by decide +kernel
theorem dX0_begin_32 : decode cX0_begin 32 = .ok (.putfield 31, 3) := by decide +kernel
theorem dX0_begin_35 : decode cX0_begin 35 = .ok (.aload_n 0, 1) := by decide +kernel
theorem dX0_begin_36 : decode cX0_begin 36 = .ok (.iconst (-1), 1) := by decide +kernel
theorem dX0_begin_37 : decode cX0_begin 37 = .ok (.putfield 34, 3) := by decide +kernel
theorem dX0_begin_40 : decode cX0_begin 40 = .ok (.return_, 1) := by decide +kernel
theorem dX0_copyFrom_0 : decode cX0_copyFrom 0 = .ok (.aload_n 0, 1) := by decide +kernel
theorem dX0_copyFrom_1 : decode cX0_copyFrom 1 = .ok (.aload_n 1, 1) := by decide +kernel
theorem dX0_copyFrom_2 : decode cX0_copyFrom 2 = .ok (.getfield 9, 3) := by decide +kernel
theorem dX0_copyFrom_5 : decode cX0_copyFrom 5 = .ok (.putfield 9, 3) := by decide +kernel
theorem dX0_copyFrom_8 : decode cX0_copyFrom 8 = .ok (.aload_n 0, 1) := by decide +kernel
theorem dX0_copyFrom_9 : decode cX0_copyFrom 9 = .ok (.aload_n 1, 1) := by decide +kernel
theorem dX0_copyFrom_10 : decode cX0_copyFrom 10 = .ok (.getfield 15, 3) := by decide +kernel
theorem dX0_copyFrom_13 : decode cX0_copyFrom 13 = .ok (.putfield 15, 3) := by decide +kernel
theorem dX0_copyFrom_16 : decode cX0_copyFrom 16 = .ok (.aload_n 0, 1) := by decide +kernel
theorem dX0_copyFrom_17 : decode cX0_copyFrom 17 = .ok (.aload_n 1, 1) := by decide +kernel
theorem dX0_copyFrom_18 : decode cX0_copyFrom 18 = .ok (.getfield 18, 3) := by decide +kernel
theorem dX0_copyFrom_21 : decode cX0_copyFrom 21 = .ok (.putfield 18, 3) := by decide +kernel
theorem dX0_copyFrom_24 : decode cX0_copyFrom 24 = .ok (.aload_n 0, 1) := by decide +kernel
theorem dX0_copyFrom_25 : decode cX0_copyFrom 25 = .ok (.aload_n 1, 1) := by decide +kernel
theorem dX0_copyFrom_26 : decode cX0_copyFrom 26 = .ok (.getfield 21, 3) := by decide +kernel
theorem dX0_copyFrom_29 : decode cX0_copyFrom 29 = .ok (.putfield 21, 3) := by decide +kernel
theorem dX0_copyFrom_32 : decode cX0_copyFrom 32 = .ok (.aload_n 0, 1) := by decide +kernel
theorem dX0_copyFrom_33 : decode cX0_copyFrom 33 = .ok (.aload_n 1, 1) := by decide +kernel
theorem dX0_copyFrom_34 : decode cX0_copyFrom 34 = .ok (.getfield 25, 3) := by decide +kernel
theorem dX0_copyFrom_37 : decode cX0_copyFrom 37 = .ok (.putfield 25, 3) := by decide +kernel
theorem dX0_copyFrom_40 : decode cX0_copyFrom 40 = .ok (.aload_n 0, 1) := by decide +kernel
theorem dX0_copyFrom_41 : decode cX0_copyFrom 41 = .ok (.aload_n 1, 1) := by decide +kernel
theorem dX0_copyFrom_42 : decode cX0_copyFrom 42 = .ok (.getfield 28, 3) := by decide +kernel
theorem dX0_copyFrom_45 : decode cX0_copyFrom 45 = .ok (.putfield 28, 3) := by decide +kernel
theorem dX0_copyFrom_48 : decode cX0_copyFrom 48 = .ok (.aload_n 0, 1) := by decide +kernel
theorem dX0_copyFrom_49 : decode cX0_copyFrom 49 = .ok (.aload_n 1, 1) := by decide +kernel
theorem dX0_copyFrom_50 : decode cX0_copyFrom 50 = .ok (.getfield 31, 3) := by decide +kernel
theorem dX0_copyFrom_53 : decode cX0_copyFrom 53 = .ok (.putfield 31, 3) := by decide +kernel
theorem dX0_copyFrom_56 : decode cX0_copyFrom 56 = .ok (.aload_n 0, 1) := by decide +kernel
theorem dX0_copyFrom_57 : decode cX0_copyFrom 57 = .ok (.aload_n 1, 1) := by decide +kernel
theorem dX0_copyFrom_58 : decode cX0_copyFrom 58 = .ok (.getfield 34, 3) := by decide +kernel
theorem dX0_copyFrom_61 : decode cX0_copyFrom 61 = .ok (.putfield 34, 3) := by decide +kernel
theorem dX0_copyFrom_64 : decode cX0_copyFrom 64 = .ok (.return_, 1) := by decide +kernel
theorem dX0_isOpenOn_0 : decode cX0_isOpenOn 0 = .ok (.aload_n 0, 1) := by decide +kernel
theorem dX0_isOpenOn_1 : decode cX0_isOpenOn 1 = .ok (.getfield 15, 3) := by decide +kernel
theorem dX0_isOpenOn_4 : decode cX0_isOpenOn 4 = .ok (.ifCond .eq 15, 3) := by decide +kernel
theorem dX0_isOpenOn_7 : decode cX0_isOpenOn 7 = .ok (.aload_n 0, 1) := by decide +kernel
theorem dX0_isOpenOn_8 : decode cX0_isOpenOn 8 = .ok (.getfield 21, 3) := by decide +kernel
theorem dX0_isOpenOn_11 : decode cX0_isOpenOn 11 = .ok (.iload_n 1, 1) := by decide +kernel
theorem dX0_isOpenOn_12 : decode cX0_isOpenOn 12 = .ok (.if_icmp .ne 7, 3) := by decide +kernel
theorem dX0_isOpenOn_15 : decode cX0_isOpenOn 15 = .ok (.iconst 1, 1) := by decide +kernel
theorem dX0_isOpenOn_16 : decode cX0_isOpenOn 16 = .ok (.goto 4, 3) := by decide +kernel
theorem dX0_isOpenOn_19 : decode cX0_isOpenOn 19 = .ok (.iconst 0, 1) := by decide +kernel
theorem dX0_isOpenOn_20 : decode cX0_isOpenOn 20 = .ok (.ireturn, 1) := by decide +kernel
theorem dX0_meets_0 : decode cX0_meets 0 = .ok (.aload_n 0, 1) := by decide +kernel
theorem dX0_meets_1 : decode cX0_meets 1 = .ok (.getfield 18, 3) := by decide +kernel
theorem dX0_meets_4 : decode cX0_meets 4 = .ok (.ifCond .eq 11, 3) := by decide +kernel
theorem dX0_meets_7 : decode cX0_meets 7 = .ok (.iload_n 1, 1) := by decide +kernel
theorem dX0_meets_8 : decode cX0_meets 8 = .ok (.aload_n 0, 1) := by decide +kernel
theorem dX0_meets_9 : decode cX0_meets 9 = .ok (.getfield 28, 3) := by decide +kernel
theorem dX0_meets_12 : decode cX0_meets 12 = .ok (.if_icmp .gt 7, 3) := by decide +kernel
theorem dX0_meets_15 : decode cX0_meets 15 = .ok (.iconst 1, 1) := by decide +kernel
theorem dX0_meets_16 : decode cX0_meets 16 = .ok (.goto 4, 3) := by decide +kernel
theorem dX0_meets_19 : decode cX0_meets 19 = .ok (.iconst 0, 1) := by decide +kernel
theorem dX0_meets_20 : decode cX0_meets 20 = .ok (.ireturn, 1) := by decide +kernel
theorem dX1_init_0 : decode cX1_init 0 = .ok (.aload_n 0, 1) := by decide +kernel
theorem dX1_init_1 : decode cX1_init 1 = .ok (.invokespecial 3, 3) := by decide +kernel
theorem dX1_init_4 : decode cX1_init 4 = .ok (.aload_n 0, 1) := by decide +kernel
theorem dX1_init_5 : decode cX1_init 5 = .ok (.sipush 600, 3) := by decide +kernel
theorem dX1_init_8 : decode cX1_init 8 = .ok (.newarray .byte, 2) := by decide +kernel
theorem dX1_init_10 : decode cX1_init 10 = .ok (.putfield 9, 3) := by decide +kernel
theorem dX1_init_13 : decode cX1_init 13 = .ok (.return_, 1) := by decide +kernel
theorem dX1_takeFourBytes_0 : decode cX1_takeFourBytes 0 = .ok (.bipush 24, 2) := by decide +kernel
theorem dX1_takeFourBytes_2 : decode cX1_takeFourBytes 2 = .ok (.istore_n 2, 1) := by decide +kernel
theorem dX1_takeFourBytes_3 : decode cX1_takeFourBytes 3 = .ok (.iload_n 2, 1) := by decide +kernel
theorem dX1_takeFourBytes_4 : decode cX1_takeFourBytes 4 = .ok (.ifCond .lt 42, 3) := by decide +kernel
theorem dX1_takeFourBytes_7 : decode cX1_takeFourBytes 7 = .ok (.aload_n 0, 1) := by decide +kernel
theorem dX1_takeFourBytes_8 : decode cX1_takeFourBytes 8 = .ok (.getfield 15, 3) := by decide +kernel
theorem dX1_takeFourBytes_11 : decode cX1_takeFourBytes 11 = .ok (.sipush 600, 3) := by decide +kernel
theorem dX1_takeFourBytes_14 : decode cX1_takeFourBytes 14 = .ok (.if_icmp .ge 32, 3) := by decide +kernel
theorem dX1_takeFourBytes_17 : decode cX1_takeFourBytes 17 = .ok (.aload_n 0, 1) := by decide +kernel
theorem dX1_takeFourBytes_18 : decode cX1_takeFourBytes 18 = .ok (.getfield 9, 3) := by decide +kernel
theorem dX1_takeFourBytes_21 : decode cX1_takeFourBytes 21 = .ok (.aload_n 0, 1) := by decide +kernel
theorem dX1_takeFourBytes_22 : decode cX1_takeFourBytes 22 = .ok (.getfield 15, 3) := by decide +kernel
theorem dX1_takeFourBytes_25 : decode cX1_takeFourBytes 25 = .ok (.iload_n 1, 1) := by decide +kernel
theorem dX1_takeFourBytes_26 : decode cX1_takeFourBytes 26 = .ok (.iload_n 2, 1) := by decide +kernel
theorem dX1_takeFourBytes_27 : decode cX1_takeFourBytes 27 = .ok (.ishr, 1) := by decide +kernel
theorem dX1_takeFourBytes_28 : decode cX1_takeFourBytes 28 = .ok (.i2b, 1) := by decide +kernel
theorem dX1_takeFourBytes_29 : decode cX1_takeFourBytes 29 = .ok (.bastore, 1) := by decide +kernel
theorem dX1_takeFourBytes_30 : decode cX1_takeFourBytes 30 = .ok (.aload_n 0, 1) := by decide +kernel
theorem dX1_takeFourBytes_31 : decode cX1_takeFourBytes 31 = .ok (.dup, 1) := by decide +kernel
theorem dX1_takeFourBytes_32 : decode cX1_takeFourBytes 32 = .ok (.getfield 15, 3) := by decide +kernel
theorem dX1_takeFourBytes_35 : decode cX1_takeFourBytes 35 = .ok (.iconst 1, 1) := by decide +kernel
theorem dX1_takeFourBytes_36 : decode cX1_takeFourBytes 36 = .ok (.iadd, 1) := by decide +kernel
theorem dX1_takeFourBytes_37 : decode cX1_takeFourBytes 37 = .ok (.putfield 15, 3) := by decide +kernel
theorem dX1_takeFourBytes_40 : decode cX1_takeFourBytes 40 = .ok (.iinc 2 (-8), 3) := by decide +kernel
theorem dX1_takeFourBytes_43 : decode cX1_takeFourBytes 43 = .ok (.goto (-40), 3) := by decide +kernel
theorem dX1_takeFourBytes_46 : decode cX1_takeFourBytes 46 = .ok (.return_, 1) := by decide +kernel
theorem dX1_lengthWithoutLastSpaces_0 : decode cX1_lengthWithoutLastSpaces 0 = .ok (.aload_n 0, 1) := by decide +kernel
theorem dX1_lengthWithoutLastSpaces_1 : decode cX1_lengthWithoutLastSpaces 1 = .ok (.getfield 15, 3) := by decide +kernel
theorem dX1_lengthWithoutLastSpaces_4 : decode cX1_lengthWithoutLastSpaces 4 = .ok (.istore_n 1, 1) := by decide +kernel
theorem dX1_lengthWithoutLastSpaces_5 : decode cX1_lengthWithoutLastSpaces 5 = .ok (.iload_n 1, 1) := by decide +kernel
theorem dX1_lengthWithoutLastSpaces_6 : decode cX1_lengthWithoutLastSpaces 6 = .ok (.ifCond .le 22, 3) := by decide +kernel
theorem dX1_lengthWithoutLastSpaces_9 : decode cX1_lengthWithoutLastSpaces 9 = .ok (.aload_n 0, 1) := by decide +kernel
theorem dX1_lengthWithoutLastSpaces_10 : decode cX1_lengthWithoutLastSpaces 10 = .ok (.getfield 9, 3) := by decide +kernel
theorem dX1_lengthWithoutLastSpaces_13 : decode cX1_lengthWithoutLastSpaces 13 = .ok (.iload_n 1, 1) := by decide +kernel
theorem dX1_lengthWithoutLastSpaces_14 : decode cX1_lengthWithoutLastSpaces 14 = .ok (.iconst 1, 1) := by decide +kernel
theorem dX1_lengthWithoutLastSpaces_15 : decode cX1_lengthWithoutLastSpaces 15 = .ok (.isub, 1) := by decide +kernel
theorem dX1_lengthWithoutLastSpaces_16 : decode cX1_lengthWithoutLastSpaces 16 = .ok (.baload, 1) := by decide +kernel
theorem dX1_lengthWithoutLastSpaces_17 : decode cX1_lengthWithoutLastSpaces 17 = .ok (.bipush 32, 2) := by decide +kernel
theorem dX1_lengthWithoutLastSpaces_19 : decode cX1_lengthWithoutLastSpaces 19 = .ok (.if_icmp .ne 9, 3) := by decide +kernel
theorem dX1_lengthWithoutLastSpaces_22 : decode cX1_lengthWithoutLastSpaces 22 = .ok (.iinc 1 (-1), 3) := by decide +kernel
theorem dX1_lengthWithoutLastSpaces_25 : decode cX1_lengthWithoutLastSpaces 25 = .ok (.goto (-20), 3) := by decide +kernel
theorem dX1_lengthWithoutLastSpaces_28 : decode cX1_lengthWithoutLastSpaces 28 = .ok (.iload_n 1, 1) := by decide +kernel
theorem dX1_lengthWithoutLastSpaces_29 : decode cX1_lengthWithoutLastSpaces 29 = .ok (.ireturn, 1) := by decide +kernel
theorem dX1_holds_0 : decode cX1_holds 0 = .ok (.iload_n 1, 1) := by decide +kernel
theorem dX1_holds_1 : decode cX1_holds 1 = .ok (.ifCond .lt 20, 3) := by decide +kernel
theorem dX1_holds_4 : decode cX1_holds 4 = .ok (.iload_n 2, 1) := by decide +kernel
theorem dX1_holds_5 : decode cX1_holds 5 = .ok (.sipush 600, 3) := by decide +kernel
theorem dX1_holds_8 : decode cX1_holds 8 = .ok (.if_icmp .gt 13, 3) := by decide +kernel
theorem dX1_holds_11 : decode cX1_holds 11 = .ok (.iload_n 2, 1) := by decide +kernel
theorem dX1_holds_12 : decode cX1_holds 12 = .ok (.iload_n 1, 1) := by decide +kernel
theorem dX1_holds_13 : decode cX1_holds 13 = .ok (.isub, 1) := by decide +kernel
theorem dX1_holds_14 : decode cX1_holds 14 = .ok (.aload_n 3, 1) := by decide +kernel
theorem dX1_holds_15 : decode cX1_holds 15 = .ok (.invokevirtual 19, 3) := by decide +kernel
theorem dX1_holds_18 : decode cX1_holds 18 = .ok (.if_icmp .eq 5, 3) := by decide +kernel
theorem dX1_holds_21 : decode cX1_holds 21 = .ok (.iconst 0, 1) := by decide +kernel
theorem dX1_holds_22 : decode cX1_holds 22 = .ok (.ireturn, 1) := by decide +kernel
theorem dX1_holds_23 : decode cX1_holds 23 = .ok (.iload_n 1, 1) := by decide +kernel
theorem dX1_holds_24 : decode cX1_holds 24 = .ok (.istore 4, 2) := by decide +kernel
theorem dX1_holds_26 : decode cX1_holds 26 = .ok (.iload 4, 2) := by decide +kernel
theorem dX1_holds_28 : decode cX1_holds 28 = .ok (.iload_n 2, 1) := by decide +kernel
theorem dX1_holds_29 : decode cX1_holds 29 = .ok (.if_icmp .ge 29, 3) := by decide +kernel
theorem dX1_holds_32 : decode cX1_holds 32 = .ok (.aload_n 0, 1) := by decide +kernel
theorem dX1_holds_33 : decode cX1_holds 33 = .ok (.getfield 9, 3) := by decide +kernel
theorem dX1_holds_36 : decode cX1_holds 36 = .ok (.iload 4, 2) := by decide +kernel
theorem dX1_holds_38 : decode cX1_holds 38 = .ok (.baload, 1) := by decide +kernel
theorem dX1_holds_39 : decode cX1_holds 39 = .ok (.aload_n 3, 1) := by decide +kernel
theorem dX1_holds_40 : decode cX1_holds 40 = .ok (.iload 4, 2) := by decide +kernel
theorem dX1_holds_42 : decode cX1_holds 42 = .ok (.iload_n 1, 1) := by decide +kernel
theorem dX1_holds_43 : decode cX1_holds 43 = .ok (.isub, 1) := by decide +kernel
theorem dX1_holds_44 : decode cX1_holds 44 = .ok (.invokevirtual 24, 3) := by decide +kernel
theorem dX1_holds_47 : decode cX1_holds 47 = .ok (.if_icmp .eq 5, 3) := by decide +kernel
theorem dX1_holds_50 : decode cX1_holds 50 = .ok (.iconst 0, 1) := by decide +kernel
theorem dX1_holds_51 : decode cX1_holds 51 = .ok (.ireturn, 1) := by decide +kernel
theorem dX1_holds_52 : decode cX1_holds 52 = .ok (.iinc 4 1, 3) := by decide +kernel
theorem dX1_holds_55 : decode cX1_holds 55 = .ok (.goto (-29), 3) := by decide +kernel
theorem dX1_holds_58 : decode cX1_holds 58 = .ok (.iconst 1, 1) := by decide +kernel
theorem dX1_holds_59 : decode cX1_holds 59 = .ok (.ireturn, 1) := by decide +kernel
theorem dX1_isBlank_0 : decode cX1_isBlank 0 = .ok (.aload_n 0, 1) := by decide +kernel
theorem dX1_isBlank_1 : decode cX1_isBlank 1 = .ok (.getfield 9, 3) := by decide +kernel
theorem dX1_isBlank_4 : decode cX1_isBlank 4 = .ok (.iload_n 1, 1) := by decide +kernel
theorem dX1_isBlank_5 : decode cX1_isBlank 5 = .ok (.baload, 1) := by decide +kernel
theorem dX1_isBlank_6 : decode cX1_isBlank 6 = .ok (.bipush 32, 2) := by decide +kernel
theorem dX1_isBlank_8 : decode cX1_isBlank 8 = .ok (.if_icmp .eq 14, 3) := by decide +kernel
theorem dX1_isBlank_11 : decode cX1_isBlank 11 = .ok (.aload_n 0, 1) := by decide +kernel
theorem dX1_isBlank_12 : decode cX1_isBlank 12 = .ok (.getfield 9, 3) := by decide +kernel
theorem dX1_isBlank_15 : decode cX1_isBlank 15 = .ok (.iload_n 1, 1) := by decide +kernel
theorem dX1_isBlank_16 : decode cX1_isBlank 16 = .ok (.baload, 1) := by decide +kernel
theorem dX1_isBlank_17 : decode cX1_isBlank 17 = .ok (.bipush 10, 2) := by decide +kernel
theorem dX1_isBlank_19 : decode cX1_isBlank 19 = .ok (.if_icmp .ne 7, 3) := by decide +kernel
theorem dX1_isBlank_22 : decode cX1_isBlank 22 = .ok (.iconst 1, 1) := by decide +kernel
theorem dX1_isBlank_23 : decode cX1_isBlank 23 = .ok (.goto 4, 3) := by decide +kernel
theorem dX1_isBlank_26 : decode cX1_isBlank 26 = .ok (.iconst 0, 1) := by decide +kernel
theorem dX1_isBlank_27 : decode cX1_isBlank 27 = .ok (.ireturn, 1) := by decide +kernel
theorem dX1_isLetter_0 : decode cX1_isLetter 0 = .ok (.aload_n 0, 1) := by decide +kernel
theorem dX1_isLetter_1 : decode cX1_isLetter 1 = .ok (.getfield 9, 3) := by decide +kernel
theorem dX1_isLetter_4 : decode cX1_isLetter 4 = .ok (.iload_n 1, 1) := by decide +kernel
theorem dX1_isLetter_5 : decode cX1_isLetter 5 = .ok (.baload, 1) := by decide +kernel
theorem dX1_isLetter_6 : decode cX1_isLetter 6 = .ok (.bipush 97, 2) := by decide +kernel
theorem dX1_isLetter_8 : decode cX1_isLetter 8 = .ok (.if_icmp .lt 18, 3) := by decide +kernel
theorem dX1_isLetter_11 : decode cX1_isLetter 11 = .ok (.aload_n 0, 1) := by decide +kernel
theorem dX1_isLetter_12 : decode cX1_isLetter 12 = .ok (.getfield 9, 3) := by decide +kernel
theorem dX1_isLetter_15 : decode cX1_isLetter 15 = .ok (.iload_n 1, 1) := by decide +kernel
theorem dX1_isLetter_16 : decode cX1_isLetter 16 = .ok (.baload, 1) := by decide +kernel
theorem dX1_isLetter_17 : decode cX1_isLetter 17 = .ok (.bipush 122, 2) := by decide +kernel
theorem dX1_isLetter_19 : decode cX1_isLetter 19 = .ok (.if_icmp .gt 7, 3) := by decide +kernel
theorem dX1_isLetter_22 : decode cX1_isLetter 22 = .ok (.iconst 1, 1) := by decide +kernel
theorem dX1_isLetter_23 : decode cX1_isLetter 23 = .ok (.goto 4, 3) := by decide +kernel
theorem dX1_isLetter_26 : decode cX1_isLetter 26 = .ok (.iconst 0, 1) := by decide +kernel
theorem dX1_isLetter_27 : decode cX1_isLetter 27 = .ok (.ireturn, 1) := by decide +kernel
theorem dX1_isDigit_0 : decode cX1_isDigit 0 = .ok (.aload_n 0, 1) := by decide +kernel
theorem dX1_isDigit_1 : decode cX1_isDigit 1 = .ok (.getfield 9, 3) := by decide +kernel
theorem dX1_isDigit_4 : decode cX1_isDigit 4 = .ok (.iload_n 1, 1) := by decide +kernel
theorem dX1_isDigit_5 : decode cX1_isDigit 5 = .ok (.baload, 1) := by decide +kernel
theorem dX1_isDigit_6 : decode cX1_isDigit 6 = .ok (.bipush 48, 2) := by decide +kernel
theorem dX1_isDigit_8 : decode cX1_isDigit 8 = .ok (.if_icmp .lt 18, 3) := by decide +kernel
theorem dX1_isDigit_11 : decode cX1_isDigit 11 = .ok (.aload_n 0, 1) := by decide +kernel
theorem dX1_isDigit_12 : decode cX1_isDigit 12 = .ok (.getfield 9, 3) := by decide +kernel
theorem dX1_isDigit_15 : decode cX1_isDigit 15 = .ok (.iload_n 1, 1) := by decide +kernel
theorem dX1_isDigit_16 : decode cX1_isDigit 16 = .ok (.baload, 1) := by decide +kernel
theorem dX1_isDigit_17 : decode cX1_isDigit 17 = .ok (.bipush 57, 2) := by decide +kernel
theorem dX1_isDigit_19 : decode cX1_isDigit 19 = .ok (.if_icmp .gt 7, 3) := by decide +kernel
theorem dX1_isDigit_22 : decode cX1_isDigit 22 = .ok (.iconst 1, 1) := by decide +kernel
theorem dX1_isDigit_23 : decode cX1_isDigit 23 = .ok (.goto 4, 3) := by decide +kernel
theorem dX1_isDigit_26 : decode cX1_isDigit 26 = .ok (.iconst 0, 1) := by decide +kernel
theorem dX1_isDigit_27 : decode cX1_isDigit 27 = .ok (.ireturn, 1) := by decide +kernel
theorem dX2_init_0 : decode cX2_init 0 = .ok (.aload_n 0, 1) := by decide +kernel
theorem dX2_init_1 : decode cX2_init 1 = .ok (.invokespecial 3, 3) := by decide +kernel
theorem dX2_init_4 : decode cX2_init 4 = .ok (.aload_n 0, 1) := by decide +kernel
theorem dX2_init_5 : decode cX2_init 5 = .ok (.bipush 60, 2) := by decide +kernel
theorem dX2_init_7 : decode cX2_init 7 = .ok (.newarray .int, 2) := by decide +kernel
theorem dX2_init_9 : decode cX2_init 9 = .ok (.putfield 9, 3) := by decide +kernel
theorem dX2_init_12 : decode cX2_init 12 = .ok (.aload_n 0, 1) := by decide +kernel
theorem dX2_init_13 : decode cX2_init 13 = .ok (.bipush 60, 2) := by decide +kernel
theorem dX2_init_15 : decode cX2_init 15 = .ok (.newarray .int, 2) := by decide +kernel
theorem dX2_init_17 : decode cX2_init 17 = .ok (.putfield 15, 3) := by decide +kernel
theorem dX2_init_20 : decode cX2_init 20 = .ok (.aload_n 0, 1) := by decide +kernel
theorem dX2_init_21 : decode cX2_init 21 = .ok (.bipush 60, 2) := by decide +kernel
theorem dX2_init_23 : decode cX2_init 23 = .ok (.newarray .int, 2) := by decide +kernel
theorem dX2_init_25 : decode cX2_init 25 = .ok (.putfield 18, 3) := by decide +kernel
theorem dX2_init_28 : decode cX2_init 28 = .ok (.return_, 1) := by decide +kernel
theorem dX2_begin_0 : decode cX2_begin 0 = .ok (.aload_n 0, 1) := by decide +kernel
theorem dX2_begin_1 : decode cX2_begin 1 = .ok (.iconst 0, 1) := by decide +kernel
theorem dX2_begin_2 : decode cX2_begin 2 = .ok (.putfield 21, 3) := by decide +kernel
theorem dX2_begin_5 : decode cX2_begin 5 = .ok (.aload_n 0, 1) := by decide +kernel
theorem dX2_begin_6 : decode cX2_begin 6 = .ok (.iconst 0, 1) := by decide +kernel
theorem dX2_begin_7 : decode cX2_begin 7 = .ok (.putfield 25, 3) := by decide +kernel
theorem dX2_begin_10 : decode cX2_begin 10 = .ok (.aload_n 0, 1) := by decide +kernel
theorem dX2_begin_11 : decode cX2_begin 11 = .ok (.lconst 0, 1) := by decide +kernel
theorem dX2_begin_12 : decode cX2_begin 12 = .ok (.putfield 28, 3) := by decide +kernel
theorem dX2_begin_15 : decode cX2_begin 15 = .ok (.return_, 1) := by decide +kernel
theorem dX2_copyFrom_0 : decode cX2_copyFrom 0 = .ok (.aload_n 0, 1) := by decide +kernel
theorem dX2_copyFrom_1 : decode cX2_copyFrom 1 = .ok (.aload_n 1, 1) := by decide +kernel
theorem dX2_copyFrom_2 : decode cX2_copyFrom 2 = .ok (.getfield 21, 3) := by decide +kernel
theorem dX2_copyFrom_5 : decode cX2_copyFrom 5 = .ok (.putfield 21, 3) := by decide +kernel
theorem dX2_copyFrom_8 : decode cX2_copyFrom 8 = .ok (.aload_n 0, 1) := by decide +kernel
theorem dX2_copyFrom_9 : decode cX2_copyFrom 9 = .ok (.aload_n 1, 1) := by decide +kernel
theorem dX2_copyFrom_10 : decode cX2_copyFrom 10 = .ok (.getfield 25, 3) := by decide +kernel
theorem dX2_copyFrom_13 : decode cX2_copyFrom 13 = .ok (.putfield 25, 3) := by decide +kernel
theorem dX2_copyFrom_16 : decode cX2_copyFrom 16 = .ok (.aload_n 0, 1) := by decide +kernel
theorem dX2_copyFrom_17 : decode cX2_copyFrom 17 = .ok (.aload_n 1, 1) := by decide +kernel
theorem dX2_copyFrom_18 : decode cX2_copyFrom 18 = .ok (.getfield 28, 3) := by decide +kernel
theorem dX2_copyFrom_21 : decode cX2_copyFrom 21 = .ok (.putfield 28, 3) := by decide +kernel
theorem dX2_copyFrom_24 : decode cX2_copyFrom 24 = .ok (.aload_n 1, 1) := by decide +kernel
theorem dX2_copyFrom_25 : decode cX2_copyFrom 25 = .ok (.getfield 9, 3) := by decide +kernel
theorem dX2_copyFrom_28 : decode cX2_copyFrom 28 = .ok (.iconst 0, 1) := by decide +kernel
theorem dX2_copyFrom_29 : decode cX2_copyFrom 29 = .ok (.aload_n 0, 1) := by decide +kernel
theorem dX2_copyFrom_30 : decode cX2_copyFrom 30 = .ok (.getfield 9, 3) := by decide +kernel
theorem dX2_copyFrom_33 : decode cX2_copyFrom 33 = .ok (.iconst 0, 1) := by decide +kernel
theorem dX2_copyFrom_34 : decode cX2_copyFrom 34 = .ok (.aload_n 0, 1) := by decide +kernel
theorem dX2_copyFrom_35 : decode cX2_copyFrom 35 = .ok (.getfield 21, 3) := by decide +kernel
theorem dX2_copyFrom_38 : decode cX2_copyFrom 38 = .ok (.invokestatic 32, 3) := by decide +kernel
theorem dX2_copyFrom_41 : decode cX2_copyFrom 41 = .ok (.aload_n 1, 1) := by decide +kernel
theorem dX2_copyFrom_42 : decode cX2_copyFrom 42 = .ok (.getfield 15, 3) := by decide +kernel
theorem dX2_copyFrom_45 : decode cX2_copyFrom 45 = .ok (.iconst 0, 1) := by decide +kernel
theorem dX2_copyFrom_46 : decode cX2_copyFrom 46 = .ok (.aload_n 0, 1) := by decide +kernel
theorem dX2_copyFrom_47 : decode cX2_copyFrom 47 = .ok (.getfield 15, 3) := by decide +kernel
theorem dX2_copyFrom_50 : decode cX2_copyFrom 50 = .ok (.iconst 0, 1) := by decide +kernel
theorem dX2_copyFrom_51 : decode cX2_copyFrom 51 = .ok (.aload_n 0, 1) := by decide +kernel
theorem dX2_copyFrom_52 : decode cX2_copyFrom 52 = .ok (.getfield 21, 3) := by decide +kernel
theorem dX2_copyFrom_55 : decode cX2_copyFrom 55 = .ok (.invokestatic 32, 3) := by decide +kernel
theorem dX2_copyFrom_58 : decode cX2_copyFrom 58 = .ok (.aload_n 1, 1) := by decide +kernel
theorem dX2_copyFrom_59 : decode cX2_copyFrom 59 = .ok (.getfield 18, 3) := by decide +kernel
theorem dX2_copyFrom_62 : decode cX2_copyFrom 62 = .ok (.iconst 0, 1) := by decide +kernel
theorem dX2_copyFrom_63 : decode cX2_copyFrom 63 = .ok (.aload_n 0, 1) := by decide +kernel
theorem dX2_copyFrom_64 : decode cX2_copyFrom 64 = .ok (.getfield 18, 3) := by decide +kernel
theorem dX2_copyFrom_67 : decode cX2_copyFrom 67 = .ok (.iconst 0, 1) := by decide +kernel
theorem dX2_copyFrom_68 : decode cX2_copyFrom 68 = .ok (.aload_n 0, 1) := by decide +kernel
theorem dX2_copyFrom_69 : decode cX2_copyFrom 69 = .ok (.getfield 21, 3) := by decide +kernel
theorem dX2_copyFrom_72 : decode cX2_copyFrom 72 = .ok (.invokestatic 32, 3) := by decide +kernel
theorem dX2_copyFrom_75 : decode cX2_copyFrom 75 = .ok (.return_, 1) := by decide +kernel
theorem dX2_bitsBehind_0 : decode cX2_bitsBehind 0 = .ok (.aload_n 0, 1) := by decide +kernel
theorem dX2_bitsBehind_1 : decode cX2_bitsBehind 1 = .ok (.getfield 18, 3) := by decide +kernel
theorem dX2_bitsBehind_4 : decode cX2_bitsBehind 4 = .ok (.iload_n 3, 1) := by decide +kernel
theorem dX2_bitsBehind_5 : decode cX2_bitsBehind 5 = .ok (.iaload, 1) := by decide +kernel
theorem dX2_bitsBehind_6 : decode cX2_bitsBehind 6 = .ok (.iconst 2, 1) := by decide +kernel
theorem dX2_bitsBehind_7 : decode cX2_bitsBehind 7 = .ok (.if_icmp .ne 5, 3) := by decide +kernel
theorem dX2_bitsBehind_10 : decode cX2_bitsBehind 10 = .ok (.lconst 0, 1) := by decide +kernel
theorem dX2_bitsBehind_11 : decode cX2_bitsBehind 11 = .ok (.lreturn, 1) := by decide +kernel
theorem dX2_bitsBehind_12 : decode cX2_bitsBehind 12 = .ok (.lconst 1, 1) := by decide +kernel
theorem dX2_bitsBehind_13 : decode cX2_bitsBehind 13 = .ok (.aload_n 0, 1) := by decide +kernel
theorem dX2_bitsBehind_14 : decode cX2_bitsBehind 14 = .ok (.getfield 15, 3) := by decide +kernel
theorem dX2_bitsBehind_17 : decode cX2_bitsBehind 17 = .ok (.iload_n 3, 1) := by decide +kernel
theorem dX2_bitsBehind_18 : decode cX2_bitsBehind 18 = .ok (.iaload, 1) := by decide +kernel
theorem dX2_bitsBehind_19 : decode cX2_bitsBehind 19 = .ok (.lshl, 1) := by decide +kernel
theorem dX2_bitsBehind_20 : decode cX2_bitsBehind 20 = .ok (.lstore 4, 2) := by decide +kernel
theorem dX2_bitsBehind_22 : decode cX2_bitsBehind 22 = .ok (.aload_n 0, 1) := by decide +kernel
theorem dX2_bitsBehind_23 : decode cX2_bitsBehind 23 = .ok (.getfield 18, 3) := by decide +kernel
theorem dX2_bitsBehind_26 : decode cX2_bitsBehind 26 = .ok (.iload_n 3, 1) := by decide +kernel
theorem dX2_bitsBehind_27 : decode cX2_bitsBehind 27 = .ok (.iaload, 1) := by decide +kernel
theorem dX2_bitsBehind_28 : decode cX2_bitsBehind 28 = .ok (.ifCond .ne 10, 3) := by decide +kernel
theorem dX2_bitsBehind_31 : decode cX2_bitsBehind 31 = .ok (.lload_n 1, 1) := by decide +kernel
theorem dX2_bitsBehind_32 : decode cX2_bitsBehind 32 = .ok (.lload 4, 2) := by decide +kernel
theorem dX2_bitsBehind_34 : decode cX2_bitsBehind 34 = .ok (.lor, 1) := by decide +kernel
theorem dX2_bitsBehind_35 : decode cX2_bitsBehind 35 = .ok (.goto 11, 3) := by decide +kernel
theorem dX2_bitsBehind_38 : decode cX2_bitsBehind 38 = .ok (.lload_n 1, 1) := by decide +kernel
theorem dX2_bitsBehind_39 : decode cX2_bitsBehind 39 = .ok (.lload 4, 2) := by decide +kernel
theorem dX2_bitsBehind_41 : decode cX2_bitsBehind 41 = .ok (.ldc2_w 42, 3) := by decide +kernel
theorem dX2_bitsBehind_44 : decode cX2_bitsBehind 44 = .ok (.lxor, 1) := by decide +kernel
theorem dX2_bitsBehind_45 : decode cX2_bitsBehind 45 = .ok (.land, 1) := by decide +kernel
theorem dX2_bitsBehind_46 : decode cX2_bitsBehind 46 = .ok (.lreturn, 1) := by decide +kernel
theorem dX2_note_0 : decode cX2_note 0 = .ok (.aload_n 0, 1) := by decide +kernel
theorem dX2_note_1 : decode cX2_note 1 = .ok (.getfield 21, 3) := by decide +kernel
theorem dX2_note_4 : decode cX2_note 4 = .ok (.iload 4, 2) := by decide +kernel
theorem dX2_note_6 : decode cX2_note 6 = .ok (.if_icmp .lt 87, 3) := by decide +kernel
theorem dX2_note_9 : decode cX2_note 9 = .ok (.aload_n 0, 1) := by decide +kernel
theorem dX2_note_10 : decode cX2_note 10 = .ok (.aload_n 0, 1) := by decide +kernel
theorem dX2_note_11 : decode cX2_note 11 = .ok (.getfield 9, 3) := by decide +kernel
theorem dX2_note_14 : decode cX2_note 14 = .ok (.iconst 0, 1) := by decide +kernel
theorem dX2_note_15 : decode cX2_note 15 = .ok (.iaload, 1) := by decide +kernel
theorem dX2_note_16 : decode cX2_note 16 = .ok (.putfield 25, 3) := by decide +kernel
theorem dX2_note_19 : decode cX2_note 19 = .ok (.aload_n 0, 1) := by decide +kernel
theorem dX2_note_20 : decode cX2_note 20 = .ok (.aload_n 0, 1) := by decide +kernel
theorem dX2_note_21 : decode cX2_note 21 = .ok (.aload_n 0, 1) := by decide +kernel
theorem dX2_note_22 : decode cX2_note 22 = .ok (.getfield 28, 3) := by decide +kernel
theorem dX2_note_25 : decode cX2_note 25 = .ok (.iconst 0, 1) := by decide +kernel
theorem dX2_note_26 : decode cX2_note 26 = .ok (.invokevirtual 38, 3) := by decide +kernel
theorem dX2_note_29 : decode cX2_note 29 = .ok (.putfield 28, 3) := by decide +kernel
theorem dX2_note_32 : decode cX2_note 32 = .ok (.aload_n 0, 1) := by decide +kernel
theorem dX2_note_33 : decode cX2_note 33 = .ok (.dup, 1) := by decide +kernel
theorem dX2_note_34 : decode cX2_note 34 = .ok (.getfield 21, 3) := by decide +kernel
theorem dX2_note_37 : decode cX2_note 37 = .ok (.iconst 1, 1) := by decide +kernel
theorem dX2_note_38 : decode cX2_note 38 = .ok (.isub, 1) := by decide +kernel
theorem dX2_note_39 : decode cX2_note 39 = .ok (.putfield 21, 3) := by decide +kernel
theorem dX2_note_42 : decode cX2_note 42 = .ok (.aload_n 0, 1) := by decide +kernel
theorem dX2_note_43 : decode cX2_note 43 = .ok (.getfield 9, 3) := by decide +kernel
theorem dX2_note_46 : decode cX2_note 46 = .ok (.iconst 1, 1) := by decide +kernel
theorem dX2_note_47 : decode cX2_note 47 = .ok (.aload_n 0, 1) := by decide +kernel
theorem dX2_note_48 : decode cX2_note 48 = .ok (.getfield 9, 3) := by decide +kernel
theorem dX2_note_51 : decode cX2_note 51 = .ok (.iconst 0, 1) := by decide +kernel
theorem dX2_note_52 : decode cX2_note 52 = .ok (.aload_n 0, 1) := by decide +kernel
theorem dX2_note_53 : decode cX2_note 53 = .ok (.getfield 21, 3) := by decide +kernel
theorem dX2_note_56 : decode cX2_note 56 = .ok (.invokestatic 32, 3) := by decide +kernel
theorem dX2_note_59 : decode cX2_note 59 = .ok (.aload_n 0, 1) := by decide +kernel
theorem dX2_note_60 : decode cX2_note 60 = .ok (.getfield 15, 3) := by decide +kernel
theorem dX2_note_63 : decode cX2_note 63 = .ok (.iconst 1, 1) := by decide +kernel
theorem dX2_note_64 : decode cX2_note 64 = .ok (.aload_n 0, 1) := by decide +kernel
theorem dX2_note_65 : decode cX2_note 65 = .ok (.getfield 15, 3) := by decide +kernel
theorem dX2_note_68 : decode cX2_note 68 = .ok (.iconst 0, 1) := by decide +kernel
theorem dX2_note_69 : decode cX2_note 69 = .ok (.aload_n 0, 1) := by decide +kernel
theorem dX2_note_70 : decode cX2_note 70 = .ok (.getfield 21, 3) := by decide +kernel
theorem dX2_note_73 : decode cX2_note 73 = .ok (.invokestatic 32, 3) := by decide +kernel
theorem dX2_note_76 : decode cX2_note 76 = .ok (.aload_n 0, 1) := by decide +kernel
theorem dX2_note_77 : decode cX2_note 77 = .ok (.getfield 18, 3) := by decide +kernel
theorem dX2_note_80 : decode cX2_note 80 = .ok (.iconst 1, 1) := by decide +kernel
theorem dX2_note_81 : decode cX2_note 81 = .ok (.aload_n 0, 1) := by decide +kernel
theorem dX2_note_82 : decode cX2_note 82 = .ok (.getfield 18, 3) := by decide +kernel
theorem dX2_note_85 : decode cX2_note 85 = .ok (.iconst 0, 1) := by decide +kernel
theorem dX2_note_86 : decode cX2_note 86 = .ok (.aload_n 0, 1) := by decide +kernel
theorem dX2_note_87 : decode cX2_note 87 = .ok (.getfield 21, 3) := by decide +kernel
theorem dX2_note_90 : decode cX2_note 90 = .ok (.invokestatic 32, 3) := by decide +kernel
theorem dX2_note_93 : decode cX2_note 93 = .ok (.aload_n 0, 1) := by decide +kernel
theorem dX2_note_94 : decode cX2_note 94 = .ok (.getfield 9, 3) := by decide +kernel
theorem dX2_note_97 : decode cX2_note 97 = .ok (.aload_n 0, 1) := by decide +kernel
theorem dX2_note_98 : decode cX2_note 98 = .ok (.getfield 21, 3) := by decide +kernel
theorem dX2_note_101 : decode cX2_note 101 = .ok (.iload_n 1, 1) := by decide +kernel
theorem dX2_note_102 : decode cX2_note 102 = .ok (.iastore, 1) := by decide +kernel
theorem dX2_note_103 : decode cX2_note 103 = .ok (.aload_n 0, 1) := by decide +kernel
theorem dX2_note_104 : decode cX2_note 104 = .ok (.getfield 15, 3) := by decide +kernel
theorem dX2_note_107 : decode cX2_note 107 = .ok (.aload_n 0, 1) := by decide +kernel
theorem dX2_note_108 : decode cX2_note 108 = .ok (.getfield 21, 3) := by decide +kernel
theorem dX2_note_111 : decode cX2_note 111 = .ok (.iload_n 2, 1) := by decide +kernel
theorem dX2_note_112 : decode cX2_note 112 = .ok (.iastore, 1) := by decide +kernel
theorem dX2_note_113 : decode cX2_note 113 = .ok (.aload_n 0, 1) := by decide +kernel
theorem dX2_note_114 : decode cX2_note 114 = .ok (.getfield 18, 3) := by decide +kernel
theorem dX2_note_117 : decode cX2_note 117 = .ok (.aload_n 0, 1) := by decide +kernel
theorem dX2_note_118 : decode cX2_note 118 = .ok (.getfield 21, 3) := by decide +kernel
theorem dX2_note_121 : decode cX2_note 121 = .ok (.iload_n 3, 1) := by decide +kernel
theorem dX2_note_122 : decode cX2_note 122 = .ok (.iastore, 1) := by decide +kernel
theorem dX2_note_123 : decode cX2_note 123 = .ok (.aload_n 0, 1) := by decide +kernel
theorem dX2_note_124 : decode cX2_note 124 = .ok (.dup, 1) := by decide +kernel
theorem dX2_note_125 : decode cX2_note 125 = .ok (.getfield 21, 3) := by decide +kernel
theorem dX2_note_128 : decode cX2_note 128 = .ok (.iconst 1, 1) := by decide +kernel
theorem dX2_note_129 : decode cX2_note 129 = .ok (.iadd, 1) := by decide +kernel
theorem dX2_note_130 : decode cX2_note 130 = .ok (.putfield 21, 3) := by decide +kernel
theorem dX2_note_133 : decode cX2_note 133 = .ok (.return_, 1) := by decide +kernel
theorem dX2_bitsAt_0 : decode cX2_bitsAt 0 = .ok (.aload_n 0, 1) := by decide +kernel
theorem dX2_bitsAt_1 : decode cX2_bitsAt 1 = .ok (.getfield 28, 3) := by decide +kernel
theorem dX2_bitsAt_4 : decode cX2_bitsAt 4 = .ok (.lstore_n 2, 1) := by decide +kernel
theorem dX2_bitsAt_5 : decode cX2_bitsAt 5 = .ok (.iconst 0, 1) := by decide +kernel
theorem dX2_bitsAt_6 : decode cX2_bitsAt 6 = .ok (.istore 4, 2) := by decide +kernel
theorem dX2_bitsAt_8 : decode cX2_bitsAt 8 = .ok (.iload 4, 2) := by decide +kernel
theorem dX2_bitsAt_10 : decode cX2_bitsAt 10 = .ok (.aload_n 0, 1) := by decide +kernel
theorem dX2_bitsAt_11 : decode cX2_bitsAt 11 = .ok (.getfield 21, 3) := by decide +kernel
theorem dX2_bitsAt_14 : decode cX2_bitsAt 14 = .ok (.if_icmp .ge 28, 3) := by decide +kernel
theorem dX2_bitsAt_17 : decode cX2_bitsAt 17 = .ok (.aload_n 0, 1) := by decide +kernel
theorem dX2_bitsAt_18 : decode cX2_bitsAt 18 = .ok (.getfield 9, 3) := by decide +kernel
theorem dX2_bitsAt_21 : decode cX2_bitsAt 21 = .ok (.iload 4, 2) := by decide +kernel
theorem dX2_bitsAt_23 : decode cX2_bitsAt 23 = .ok (.iaload, 1) := by decide +kernel
theorem dX2_bitsAt_24 : decode cX2_bitsAt 24 = .ok (.iload_n 1, 1) := by decide +kernel
theorem dX2_bitsAt_25 : decode cX2_bitsAt 25 = .ok (.if_icmp .gt 17, 3) := by decide +kernel
theorem dX2_bitsAt_28 : decode cX2_bitsAt 28 = .ok (.aload_n 0, 1) := by decide +kernel
theorem dX2_bitsAt_29 : decode cX2_bitsAt 29 = .ok (.lload_n 2, 1) := by decide +kernel
theorem dX2_bitsAt_30 : decode cX2_bitsAt 30 = .ok (.iload 4, 2) := by decide +kernel
theorem dX2_bitsAt_32 : decode cX2_bitsAt 32 = .ok (.invokevirtual 38, 3) := by decide +kernel
theorem dX2_bitsAt_35 : decode cX2_bitsAt 35 = .ok (.lstore_n 2, 1) := by decide +kernel
theorem dX2_bitsAt_36 : decode cX2_bitsAt 36 = .ok (.iinc 4 1, 3) := by decide +kernel
theorem dX2_bitsAt_39 : decode cX2_bitsAt 39 = .ok (.goto (-31), 3) := by decide +kernel
theorem dX2_bitsAt_42 : decode cX2_bitsAt 42 = .ok (.lload_n 2, 1) := by decide +kernel
theorem dX2_bitsAt_43 : decode cX2_bitsAt 43 = .ok (.lreturn, 1) := by decide +kernel
theorem dX2_latestChangeOf_0 : decode cX2_latestChangeOf 0 = .ok (.iconst (-1), 1) := by decide +kernel
theorem dX2_latestChangeOf_1 : decode cX2_latestChangeOf 1 = .ok (.istore_n 2, 1) := by decide +kernel
theorem dX2_latestChangeOf_2 : decode cX2_latestChangeOf 2 = .ok (.aload_n 0, 1) := by decide +kernel
theorem dX2_latestChangeOf_3 : decode cX2_latestChangeOf 3 = .ok (.getfield 28, 3) := by decide +kernel
theorem dX2_latestChangeOf_6 : decode cX2_latestChangeOf 6 = .ok (.lstore_n 3, 1) := by decide +kernel
theorem dX2_latestChangeOf_7 : decode cX2_latestChangeOf 7 = .ok (.iconst 0, 1) := by decide +kernel
theorem dX2_latestChangeOf_8 : decode cX2_latestChangeOf 8 = .ok (.istore 5, 2) := by decide +kernel
theorem dX2_latestChangeOf_10 : decode cX2_latestChangeOf 10 = .ok (.iload 5, 2) := by decide +kernel
theorem dX2_latestChangeOf_12 : decode cX2_latestChangeOf 12 = .ok (.aload_n 0, 1) := by decide +kernel
theorem dX2_latestChangeOf_13 : decode cX2_latestChangeOf 13 = .ok (.getfield 21, 3) := by decide +kernel
theorem dX2_latestChangeOf_16 : decode cX2_latestChangeOf 16 = .ok (.if_icmp .ge 42, 3) := by decide +kernel
theorem dX2_latestChangeOf_19 : decode cX2_latestChangeOf 19 = .ok (.aload_n 0, 1) := by decide +kernel
theorem dX2_latestChangeOf_20 : decode cX2_latestChangeOf 20 = .ok (.lload_n 3, 1) := by decide +kernel
theorem dX2_latestChangeOf_21 : decode cX2_latestChangeOf 21 = .ok (.iload 5, 2) := by decide +kernel
theorem dX2_latestChangeOf_23 : decode cX2_latestChangeOf 23 = .ok (.invokevirtual 38, 3) := by decide +kernel
theorem dX2_latestChangeOf_26 : decode cX2_latestChangeOf 26 = .ok (.lstore 6, 2) := by decide +kernel
theorem dX2_latestChangeOf_28 : decode cX2_latestChangeOf 28 = .ok (.lload_n 3, 1) := by decide +kernel
theorem dX2_latestChangeOf_29 : decode cX2_latestChangeOf 29 = .ok (.lload 6, 2) := by decide +kernel
theorem dX2_latestChangeOf_31 : decode cX2_latestChangeOf 31 = .ok (.lxor, 1) := by decide +kernel
theorem dX2_latestChangeOf_32 : decode cX2_latestChangeOf 32 = .ok (.lconst 1, 1) := by decide +kernel
theorem dX2_latestChangeOf_33 : decode cX2_latestChangeOf 33 = .ok (.iload_n 1, 1) := by decide +kernel
theorem dX2_latestChangeOf_34 : decode cX2_latestChangeOf 34 = .ok (.lshl, 1) := by decide +kernel
theorem dX2_latestChangeOf_35 : decode cX2_latestChangeOf 35 = .ok (.land, 1) := by decide +kernel
theorem dX2_latestChangeOf_36 : decode cX2_latestChangeOf 36 = .ok (.lconst 0, 1) := by decide +kernel
theorem dX2_latestChangeOf_37 : decode cX2_latestChangeOf 37 = .ok (.lcmp, 1) := by decide +kernel
theorem dX2_latestChangeOf_38 : decode cX2_latestChangeOf 38 = .ok (.ifCond .eq 11, 3) := by decide +kernel
theorem dX2_latestChangeOf_41 : decode cX2_latestChangeOf 41 = .ok (.aload_n 0, 1) := by decide +kernel
theorem dX2_latestChangeOf_42 : decode cX2_latestChangeOf 42 = .ok (.getfield 9, 3) := by decide +kernel
theorem dX2_latestChangeOf_45 : decode cX2_latestChangeOf 45 = .ok (.iload 5, 2) := by decide +kernel
theorem dX2_latestChangeOf_47 : decode cX2_latestChangeOf 47 = .ok (.iaload, 1) := by decide +kernel
theorem dX2_latestChangeOf_48 : decode cX2_latestChangeOf 48 = .ok (.istore_n 2, 1) := by decide +kernel
theorem dX2_latestChangeOf_49 : decode cX2_latestChangeOf 49 = .ok (.lload 6, 2) := by decide +kernel
theorem dX2_latestChangeOf_51 : decode cX2_latestChangeOf 51 = .ok (.lstore_n 3, 1) := by decide +kernel
theorem dX2_latestChangeOf_52 : decode cX2_latestChangeOf 52 = .ok (.iinc 5 1, 3) := by decide +kernel
theorem dX2_latestChangeOf_55 : decode cX2_latestChangeOf 55 = .ok (.goto (-45), 3) := by decide +kernel
theorem dX2_latestChangeOf_58 : decode cX2_latestChangeOf 58 = .ok (.iload_n 2, 1) := by decide +kernel
theorem dX2_latestChangeOf_59 : decode cX2_latestChangeOf 59 = .ok (.ireturn, 1) := by decide +kernel
theorem dJ13_bitCount_95d88_0 : decode cJ13_bitCount_95d88 0 = .ok (.lload_n 0, 1) := by decide +kernel
theorem dJ13_bitCount_95d88_1 : decode cJ13_bitCount_95d88 1 = .ok (.lload_n 0, 1) := by decide +kernel
theorem dJ13_bitCount_95d88_2 : decode cJ13_bitCount_95d88 2 = .ok (.iconst 1, 1) := by decide +kernel
theorem dJ13_bitCount_95d88_3 : decode cJ13_bitCount_95d88 3 = .ok (.lushr, 1) := by decide +kernel
theorem dJ13_bitCount_95d88_4 : decode cJ13_bitCount_95d88 4 = .ok (.ldc2_w 314, 3) := by decide +kernel
theorem dJ13_bitCount_95d88_7 : decode cJ13_bitCount_95d88 7 = .ok (.land, 1) := by decide +kernel
theorem dJ13_bitCount_95d88_8 : decode cJ13_bitCount_95d88 8 = .ok (.lsub, 1) := by decide +kernel
theorem dJ13_bitCount_95d88_9 : decode cJ13_bitCount_95d88 9 = .ok (.lstore_n 0, 1) := by decide +kernel
theorem dJ13_bitCount_95d88_10 : decode cJ13_bitCount_95d88 10 = .ok (.lload_n 0, 1) := by decide +kernel
theorem dJ13_bitCount_95d88_11 : decode cJ13_bitCount_95d88 11 = .ok (.ldc2_w 316, 3) := by decide +kernel
theorem dJ13_bitCount_95d88_14 : decode cJ13_bitCount_95d88 14 = .ok (.land, 1) := by decide +kernel
theorem dJ13_bitCount_95d88_15 : decode cJ13_bitCount_95d88 15 = .ok (.lload_n 0, 1) := by decide +kernel
theorem dJ13_bitCount_95d88_16 : decode cJ13_bitCount_95d88 16 = .ok (.iconst 2, 1) := by decide +kernel
theorem dJ13_bitCount_95d88_17 : decode cJ13_bitCount_95d88 17 = .ok (.lushr, 1) := by decide +kernel
theorem dJ13_bitCount_95d88_18 : decode cJ13_bitCount_95d88 18 = .ok (.ldc2_w 316, 3) := by decide +kernel
theorem dJ13_bitCount_95d88_21 : decode cJ13_bitCount_95d88 21 = .ok (.land, 1) := by decide +kernel
theorem dJ13_bitCount_95d88_22 : decode cJ13_bitCount_95d88 22 = .ok (.ladd, 1) := by decide +kernel
theorem dJ13_bitCount_95d88_23 : decode cJ13_bitCount_95d88 23 = .ok (.lstore_n 0, 1) := by decide +kernel
theorem dJ13_bitCount_95d88_24 : decode cJ13_bitCount_95d88 24 = .ok (.lload_n 0, 1) := by decide +kernel
theorem dJ13_bitCount_95d88_25 : decode cJ13_bitCount_95d88 25 = .ok (.lload_n 0, 1) := by decide +kernel
theorem dJ13_bitCount_95d88_26 : decode cJ13_bitCount_95d88 26 = .ok (.iconst 4, 1) := by decide +kernel
theorem dJ13_bitCount_95d88_27 : decode cJ13_bitCount_95d88 27 = .ok (.lushr, 1) := by decide +kernel
theorem dJ13_bitCount_95d88_28 : decode cJ13_bitCount_95d88 28 = .ok (.ladd, 1) := by decide +kernel
theorem dJ13_bitCount_95d88_29 : decode cJ13_bitCount_95d88 29 = .ok (.ldc2_w 318, 3) := by decide +kernel
theorem dJ13_bitCount_95d88_32 : decode cJ13_bitCount_95d88 32 = .ok (.land, 1) := by decide +kernel
theorem dJ13_bitCount_95d88_33 : decode cJ13_bitCount_95d88 33 = .ok (.lstore_n 0, 1) := by decide +kernel
theorem dJ13_bitCount_95d88_34 : decode cJ13_bitCount_95d88 34 = .ok (.lload_n 0, 1) := by decide +kernel
theorem dJ13_bitCount_95d88_35 : decode cJ13_bitCount_95d88 35 = .ok (.lload_n 0, 1) := by decide +kernel
theorem dJ13_bitCount_95d88_36 : decode cJ13_bitCount_95d88 36 = .ok (.bipush 8, 2) := by decide +kernel
theorem dJ13_bitCount_95d88_38 : decode cJ13_bitCount_95d88 38 = .ok (.lushr, 1) := by decide +kernel
theorem dJ13_bitCount_95d88_39 : decode cJ13_bitCount_95d88 39 = .ok (.ladd, 1) := by decide +kernel
theorem dJ13_bitCount_95d88_40 : decode cJ13_bitCount_95d88 40 = .ok (.lstore_n 0, 1) := by decide +kernel
theorem dJ13_bitCount_95d88_41 : decode cJ13_bitCount_95d88 41 = .ok (.lload_n 0, 1) := by decide +kernel
theorem dJ13_bitCount_95d88_42 : decode cJ13_bitCount_95d88 42 = .ok (.lload_n 0, 1) := by decide +kernel
theorem dJ13_bitCount_95d88_43 : decode cJ13_bitCount_95d88 43 = .ok (.bipush 16, 2) := by decide +kernel
theorem dJ13_bitCount_95d88_45 : decode cJ13_bitCount_95d88 45 = .ok (.lushr, 1) := by decide +kernel
theorem dJ13_bitCount_95d88_46 : decode cJ13_bitCount_95d88 46 = .ok (.ladd, 1) := by decide +kernel
theorem dJ13_bitCount_95d88_47 : decode cJ13_bitCount_95d88 47 = .ok (.lstore_n 0, 1) := by decide +kernel
theorem dJ13_bitCount_95d88_48 : decode cJ13_bitCount_95d88 48 = .ok (.lload_n 0, 1) := by decide +kernel
theorem dJ13_bitCount_95d88_49 : decode cJ13_bitCount_95d88 49 = .ok (.lload_n 0, 1) := by decide +kernel
theorem dJ13_bitCount_95d88_50 : decode cJ13_bitCount_95d88 50 = .ok (.bipush 32, 2) := by decide +kernel
theorem dJ13_bitCount_95d88_52 : decode cJ13_bitCount_95d88 52 = .ok (.lushr, 1) := by decide +kernel
theorem dJ13_bitCount_95d88_53 : decode cJ13_bitCount_95d88 53 = .ok (.ladd, 1) := by decide +kernel
theorem dJ13_bitCount_95d88_54 : decode cJ13_bitCount_95d88 54 = .ok (.lstore_n 0, 1) := by decide +kernel
theorem dJ13_bitCount_95d88_55 : decode cJ13_bitCount_95d88 55 = .ok (.lload_n 0, 1) := by decide +kernel
theorem dJ13_bitCount_95d88_56 : decode cJ13_bitCount_95d88 56 = .ok (.l2i, 1) := by decide +kernel
theorem dJ13_bitCount_95d88_57 : decode cJ13_bitCount_95d88 57 = .ok (.bipush 127, 2) := by decide +kernel
theorem dJ13_bitCount_95d88_59 : decode cJ13_bitCount_95d88 59 = .ok (.iand, 1) := by decide +kernel
theorem dJ13_bitCount_95d88_60 : decode cJ13_bitCount_95d88 60 = .ok (.ireturn, 1) := by decide +kernel
theorem dX2_stampOfMostMembers_0 : decode cX2_stampOfMostMembers 0 = .ok (.aload_n 0, 1) := by decide +kernel
theorem dX2_stampOfMostMembers_1 : decode cX2_stampOfMostMembers 1 = .ok (.getfield 25, 3) := by decide +kernel
theorem dX2_stampOfMostMembers_4 : decode cX2_stampOfMostMembers 4 = .ok (.istore_n 1, 1) := by decide +kernel
theorem dX2_stampOfMostMembers_5 : decode cX2_stampOfMostMembers 5 = .ok (.aload_n 0, 1) := by decide +kernel
theorem dX2_stampOfMostMembers_6 : decode cX2_stampOfMostMembers 6 = .ok (.getfield 28, 3) := by decide +kernel
theorem dX2_stampOfMostMembers_9 : decode cX2_stampOfMostMembers 9 = .ok (.lstore_n 2, 1) := by decide +kernel
theorem dX2_stampOfMostMembers_10 : decode cX2_stampOfMostMembers 10 = .ok (.lload_n 2, 1) := by decide +kernel
theorem dX2_stampOfMostMembers_11 : decode cX2_stampOfMostMembers 11 = .ok (.invokestatic 44, 3) := by decide +kernel
theorem dX2_stampOfMostMembers_14 : decode cX2_stampOfMostMembers 14 = .ok (.istore 4, 2) := by decide +kernel
theorem dX2_stampOfMostMembers_16 : decode cX2_stampOfMostMembers 16 = .ok (.iconst 0, 1) := by decide +kernel
theorem dX2_stampOfMostMembers_17 : decode cX2_stampOfMostMembers 17 = .ok (.istore 5, 2) := by decide +kernel
theorem dX2_stampOfMostMembers_19 : decode cX2_stampOfMostMembers 19 = .ok (.iload 5, 2) := by decide +kernel
theorem dX2_stampOfMostMembers_21 : decode cX2_stampOfMostMembers 21 = .ok (.aload_n 0, 1) := by decide +kernel
theorem dX2_stampOfMostMembers_22 : decode cX2_stampOfMostMembers 22 = .ok (.getfield 21, 3) := by decide +kernel
theorem dX2_stampOfMostMembers_25 : decode cX2_stampOfMostMembers 25 = .ok (.if_icmp .ge 40, 3) := by decide +kernel
theorem dX2_stampOfMostMembers_28 : decode cX2_stampOfMostMembers 28 = .ok (.aload_n 0, 1) := by decide +kernel
theorem dX2_stampOfMostMembers_29 : decode cX2_stampOfMostMembers 29 = .ok (.lload_n 2, 1) := by decide +kernel
theorem dX2_stampOfMostMembers_30 : decode cX2_stampOfMostMembers 30 = .ok (.iload 5, 2) := by decide +kernel
theorem dX2_stampOfMostMembers_32 : decode cX2_stampOfMostMembers 32 = .ok (.invokevirtual 38, 3) := by decide +kernel
theorem dX2_stampOfMostMembers_35 : decode cX2_stampOfMostMembers 35 = .ok (.lstore_n 2, 1) := by decide +kernel
theorem dX2_stampOfMostMembers_36 : decode cX2_stampOfMostMembers 36 = .ok (.lload_n 2, 1) := by decide +kernel
theorem dX2_stampOfMostMembers_37 : decode cX2_stampOfMostMembers 37 = .ok (.invokestatic 44, 3) := by decide +kernel
theorem dX2_stampOfMostMembers_40 : decode cX2_stampOfMostMembers 40 = .ok (.iload 4, 2) := by decide +kernel
theorem dX2_stampOfMostMembers_42 : decode cX2_stampOfMostMembers 42 = .ok (.if_icmp .le 17, 3) := by decide +kernel
theorem dX2_stampOfMostMembers_45 : decode cX2_stampOfMostMembers 45 = .ok (.lload_n 2, 1) := by decide +kernel
theorem dX2_stampOfMostMembers_46 : decode cX2_stampOfMostMembers 46 = .ok (.invokestatic 44, 3) := by decide +kernel
theorem dX2_stampOfMostMembers_49 : decode cX2_stampOfMostMembers 49 = .ok (.istore 4, 2) := by decide +kernel
theorem dX2_stampOfMostMembers_51 : decode cX2_stampOfMostMembers 51 = .ok (.aload_n 0, 1) := by decide +kernel
theorem dX2_stampOfMostMembers_52 : decode cX2_stampOfMostMembers 52 = .ok (.getfield 9, 3) := by decide +kernel
theorem dX2_stampOfMostMembers_55 : decode cX2_stampOfMostMembers 55 = .ok (.iload 5, 2) := by decide +kernel
theorem dX2_stampOfMostMembers_57 : decode cX2_stampOfMostMembers 57 = .ok (.iaload, 1) := by decide +kernel
theorem dX2_stampOfMostMembers_58 : decode cX2_stampOfMostMembers 58 = .ok (.istore_n 1, 1) := by decide +kernel
theorem dX2_stampOfMostMembers_59 : decode cX2_stampOfMostMembers 59 = .ok (.iinc 5 1, 3) := by decide +kernel
theorem dX2_stampOfMostMembers_62 : decode cX2_stampOfMostMembers 62 = .ok (.goto (-43), 3) := by decide +kernel
theorem dX2_stampOfMostMembers_65 : decode cX2_stampOfMostMembers 65 = .ok (.iload_n 1, 1) := by decide +kernel
theorem dX2_stampOfMostMembers_66 : decode cX2_stampOfMostMembers 66 = .ok (.ireturn, 1) := by decide +kernel
theorem dX3_init_0 : decode cX3_init 0 = .ok (.aload_n 0, 1) := by decide +kernel
theorem dX3_init_1 : decode cX3_init 1 = .ok (.invokespecial 3, 3) := by decide +kernel
theorem dX3_init_4 : decode cX3_init 4 = .ok (.aload_n 0, 1) := by decide +kernel
theorem dX3_init_5 : decode cX3_init 5 = .ok (.aload_n 1, 1) := by decide +kernel
theorem dX3_init_6 : decode cX3_init 6 = .ok (.putfield 9, 3) := by decide +kernel
theorem dX3_init_9 : decode cX3_init 9 = .ok (.aload_n 0, 1) := by decide +kernel
theorem dX3_init_10 : decode cX3_init 10 = .ok (.iload_n 2, 1) := by decide +kernel
theorem dX3_init_11 : decode cX3_init 11 = .ok (.putfield 15, 3) := by decide +kernel
theorem dX3_init_14 : decode cX3_init 14 = .ok (.aload_n 0, 1) := by decide +kernel
theorem dX3_init_15 : decode cX3_init 15 = .ok (.aload_n 3, 1) := by decide +kernel
theorem dX3_init_16 : decode cX3_init 16 = .ok (.putfield 19, 3) := by decide +kernel
theorem dX3_init_19 : decode cX3_init 19 = .ok (.aload_n 0, 1) := by decide +kernel
theorem dX3_init_20 : decode cX3_init 20 = .ok (.getstatic 23, 3) := by decide +kernel
theorem dX3_init_23 : decode cX3_init 23 = .ok (.putfield 29, 3) := by decide +kernel
theorem dX3_init_26 : decode cX3_init 26 = .ok (.aload_n 0, 1) := by decide +kernel
theorem dX3_init_27 : decode cX3_init 27 = .ok (.iconst (-1), 1) := by decide +kernel
theorem dX3_init_28 : decode cX3_init 28 = .ok (.putfield 32, 3) := by decide +kernel
theorem dX3_init_31 : decode cX3_init 31 = .ok (.return_, 1) := by decide +kernel
theorem dX3_passLetters_0 : decode cX3_passLetters 0 = .ok (.aload_n 0, 1) := by decide +kernel
theorem dX3_passLetters_1 : decode cX3_passLetters 1 = .ok (.aload_n 0, 1) := by decide +kernel
theorem dX3_passLetters_2 : decode cX3_passLetters 2 = .ok (.getfield 100, 3) := by decide +kernel
theorem dX3_passLetters_5 : decode cX3_passLetters 5 = .ok (.putfield 103, 3) := by decide +kernel
theorem dX3_passLetters_8 : decode cX3_passLetters 8 = .ok (.aload_n 0, 1) := by decide +kernel
theorem dX3_passLetters_9 : decode cX3_passLetters 9 = .ok (.getfield 103, 3) := by decide +kernel
theorem dX3_passLetters_12 : decode cX3_passLetters 12 = .ok (.aload_n 0, 1) := by decide +kernel
theorem dX3_passLetters_13 : decode cX3_passLetters 13 = .ok (.getfield 15, 3) := by decide +kernel
theorem dX3_passLetters_16 : decode cX3_passLetters 16 = .ok (.if_icmp .ge 30, 3) := by decide +kernel
theorem dX3_passLetters_19 : decode cX3_passLetters 19 = .ok (.aload_n 0, 1) := by decide +kernel
theorem dX3_passLetters_20 : decode cX3_passLetters 20 = .ok (.getfield 9, 3) := by decide +kernel
theorem dX3_passLetters_23 : decode cX3_passLetters 23 = .ok (.aload_n 0, 1) := by decide +kernel
theorem dX3_passLetters_24 : decode cX3_passLetters 24 = .ok (.getfield 103, 3) := by decide +kernel
theorem dX3_passLetters_27 : decode cX3_passLetters 27 = .ok (.invokevirtual 177, 3) := by decide +kernel
theorem dX3_passLetters_30 : decode cX3_passLetters 30 = .ok (.ifCond .eq 16, 3) := by decide +kernel
theorem dX3_passLetters_33 : decode cX3_passLetters 33 = .ok (.aload_n 0, 1) := by decide +kernel
theorem dX3_passLetters_34 : decode cX3_passLetters 34 = .ok (.dup, 1) := by decide +kernel
theorem dX3_passLetters_35 : decode cX3_passLetters 35 = .ok (.getfield 103, 3) := by decide +kernel
theorem dX3_passLetters_38 : decode cX3_passLetters 38 = .ok (.iconst 1, 1) := by decide +kernel
theorem dX3_passLetters_39 : decode cX3_passLetters 39 = .ok (.iadd, 1) := by decide +kernel
theorem dX3_passLetters_40 : decode cX3_passLetters 40 = .ok (.putfield 103, 3) := by decide +kernel
theorem dX3_passLetters_43 : decode cX3_passLetters 43 = .ok (.goto (-35), 3) := by decide +kernel
theorem dX3_passLetters_46 : decode cX3_passLetters 46 = .ok (.aload_n 0, 1) := by decide +kernel
theorem dX3_passLetters_47 : decode cX3_passLetters 47 = .ok (.aload_n 0, 1) := by decide +kernel
theorem dX3_passLetters_48 : decode cX3_passLetters 48 = .ok (.getfield 103, 3) := by decide +kernel
theorem dX3_passLetters_51 : decode cX3_passLetters 51 = .ok (.aload_n 0, 1) := by decide +kernel
theorem dX3_passLetters_52 : decode cX3_passLetters 52 = .ok (.getfield 100, 3) := by decide +kernel
theorem dX3_passLetters_55 : decode cX3_passLetters 55 = .ok (.isub, 1) := by decide +kernel
theorem dX3_passLetters_56 : decode cX3_passLetters 56 = .ok (.bipush 8, 2) := by decide +kernel
theorem dX3_passLetters_58 : decode cX3_passLetters 58 = .ok (.if_icmp .le 9, 3) := by decide +kernel
theorem dX3_passLetters_61 : decode cX3_passLetters 61 = .ok (.getstatic 189, 3) := by decide +kernel
theorem dX3_passLetters_64 : decode cX3_passLetters 64 = .ok (.goto 6, 3) := by decide +kernel
theorem dX3_passLetters_67 : decode cX3_passLetters 67 = .ok (.getstatic 97, 3) := by decide +kernel
theorem dX3_passLetters_70 : decode cX3_passLetters 70 = .ok (.putfield 29, 3) := by decide +kernel
theorem dX3_passLetters_73 : decode cX3_passLetters 73 = .ok (.return_, 1) := by decide +kernel
theorem dX3_passDigits_0 : decode cX3_passDigits 0 = .ok (.aload_n 0, 1) := by decide +kernel
theorem dX3_passDigits_1 : decode cX3_passDigits 1 = .ok (.iconst 0, 1) := by decide +kernel
theorem dX3_passDigits_2 : decode cX3_passDigits 2 = .ok (.putfield 48, 3) := by decide +kernel
theorem dX3_passDigits_5 : decode cX3_passDigits 5 = .ok (.aload_n 0, 1) := by decide +kernel
theorem dX3_passDigits_6 : decode cX3_passDigits 6 = .ok (.aload_n 0, 1) := by decide +kernel
theorem dX3_passDigits_7 : decode cX3_passDigits 7 = .ok (.getfield 100, 3) := by decide +kernel
theorem dX3_passDigits_10 : decode cX3_passDigits 10 = .ok (.putfield 103, 3) := by decide +kernel
theorem dX3_passDigits_13 : decode cX3_passDigits 13 = .ok (.aload_n 0, 1) := by decide +kernel
theorem dX3_passDigits_14 : decode cX3_passDigits 14 = .ok (.getfield 103, 3) := by decide +kernel
theorem dX3_passDigits_17 : decode cX3_passDigits 17 = .ok (.aload_n 0, 1) := by decide +kernel
theorem dX3_passDigits_18 : decode cX3_passDigits 18 = .ok (.getfield 15, 3) := by decide +kernel
theorem dX3_passDigits_21 : decode cX3_passDigits 21 = .ok (.if_icmp .ge 57, 3) := by decide +kernel
theorem dX3_passDigits_24 : decode cX3_passDigits 24 = .ok (.aload_n 0, 1) := by decide +kernel
theorem dX3_passDigits_25 : decode cX3_passDigits 25 = .ok (.getfield 9, 3) := by decide +kernel
theorem dX3_passDigits_28 : decode cX3_passDigits 28 = .ok (.aload_n 0, 1) := by decide +kernel
theorem dX3_passDigits_29 : decode cX3_passDigits 29 = .ok (.getfield 103, 3) := by decide +kernel
theorem dX3_passDigits_32 : decode cX3_passDigits 32 = .ok (.invokevirtual 183, 3) := by decide +kernel
theorem dX3_passDigits_35 : decode cX3_passDigits 35 = .ok (.ifCond .eq 43, 3) := by decide +kernel
theorem dX3_passDigits_38 : decode cX3_passDigits 38 = .ok (.aload_n 0, 1) := by decide +kernel
theorem dX3_passDigits_39 : decode cX3_passDigits 39 = .ok (.aload_n 0, 1) := by decide +kernel
theorem dX3_passDigits_40 : decode cX3_passDigits 40 = .ok (.getfield 48, 3) := by decide +kernel
theorem dX3_passDigits_43 : decode cX3_passDigits 43 = .ok (.bipush 10, 2) := by decide +kernel
theorem dX3_passDigits_45 : decode cX3_passDigits 45 = .ok (.imul, 1) := by decide +kernel
theorem dX3_passDigits_46 : decode cX3_passDigits 46 = .ok (.aload_n 0, 1) := by decide +kernel
theorem dX3_passDigits_47 : decode cX3_passDigits 47 = .ok (.getfield 9, 3) := by decide +kernel
theorem dX3_passDigits_50 : decode cX3_passDigits 50 = .ok (.getfield 163, 3) := by decide +kernel
theorem dX3_passDigits_53 : decode cX3_passDigits 53 = .ok (.aload_n 0, 1) := by decide +kernel
theorem dX3_passDigits_54 : decode cX3_passDigits 54 = .ok (.getfield 103, 3) := by decide +kernel
theorem dX3_passDigits_57 : decode cX3_passDigits 57 = .ok (.baload, 1) := by decide +kernel
theorem dX3_passDigits_58 : decode cX3_passDigits 58 = .ok (.bipush 48, 2) := by decide +kernel
theorem dX3_passDigits_60 : decode cX3_passDigits 60 = .ok (.isub, 1) := by decide +kernel
theorem dX3_passDigits_61 : decode cX3_passDigits 61 = .ok (.iadd, 1) := by decide +kernel
theorem dX3_passDigits_62 : decode cX3_passDigits 62 = .ok (.putfield 48, 3) := by decide +kernel
theorem dX3_passDigits_65 : decode cX3_passDigits 65 = .ok (.aload_n 0, 1) := by decide +kernel
theorem dX3_passDigits_66 : decode cX3_passDigits 66 = .ok (.dup, 1) := by decide +kernel
theorem dX3_passDigits_67 : decode cX3_passDigits 67 = .ok (.getfield 103, 3) := by decide +kernel
theorem dX3_passDigits_70 : decode cX3_passDigits 70 = .ok (.iconst 1, 1) := by decide +kernel
theorem dX3_passDigits_71 : decode cX3_passDigits 71 = .ok (.iadd, 1) := by decide +kernel
theorem dX3_passDigits_72 : decode cX3_passDigits 72 = .ok (.putfield 103, 3) := by decide +kernel
theorem dX3_passDigits_75 : decode cX3_passDigits 75 = .ok (.goto (-62), 3) := by decide +kernel
theorem dX3_passDigits_78 : decode cX3_passDigits 78 = .ok (.aload_n 0, 1) := by decide +kernel
theorem dX3_passDigits_79 : decode cX3_passDigits 79 = .ok (.aload_n 0, 1) := by decide +kernel
theorem dX3_passDigits_80 : decode cX3_passDigits 80 = .ok (.getfield 103, 3) := by decide +kernel
theorem dX3_passDigits_83 : decode cX3_passDigits 83 = .ok (.aload_n 0, 1) := by decide +kernel
theorem dX3_passDigits_84 : decode cX3_passDigits 84 = .ok (.getfield 100, 3) := by decide +kernel
theorem dX3_passDigits_87 : decode cX3_passDigits 87 = .ok (.isub, 1) := by decide +kernel
theorem dX3_passDigits_88 : decode cX3_passDigits 88 = .ok (.iconst 3, 1) := by decide +kernel
theorem dX3_passDigits_89 : decode cX3_passDigits 89 = .ok (.if_icmp .le 9, 3) := by decide +kernel
theorem dX3_passDigits_92 : decode cX3_passDigits 92 = .ok (.getstatic 189, 3) := by decide +kernel
theorem dX3_passDigits_95 : decode cX3_passDigits 95 = .ok (.goto 6, 3) := by decide +kernel
theorem dX3_passDigits_98 : decode cX3_passDigits 98 = .ok (.getstatic 122, 3) := by decide +kernel
theorem dX3_passDigits_101 : decode cX3_passDigits 101 = .ok (.putfield 29, 3) := by decide +kernel
theorem dX3_passDigits_104 : decode cX3_passDigits 104 = .ok (.return_, 1) := by decide +kernel
theorem dX3_toNextToken_0 : decode cX3_toNextToken 0 = .ok (.aload_n 0, 1) := by decide +kernel
theorem dX3_toNextToken_1 : decode cX3_toNextToken 1 = .ok (.aload_n 0, 1) := by decide +kernel
theorem dX3_toNextToken_2 : decode cX3_toNextToken 2 = .ok (.getfield 103, 3) := by decide +kernel
theorem dX3_toNextToken_5 : decode cX3_toNextToken 5 = .ok (.putfield 100, 3) := by decide +kernel
theorem dX3_toNextToken_8 : decode cX3_toNextToken 8 = .ok (.aload_n 0, 1) := by decide +kernel
theorem dX3_toNextToken_9 : decode cX3_toNextToken 9 = .ok (.getfield 100, 3) := by decide +kernel
theorem dX3_toNextToken_12 : decode cX3_toNextToken 12 = .ok (.aload_n 0, 1) := by decide +kernel
theorem dX3_toNextToken_13 : decode cX3_toNextToken 13 = .ok (.getfield 15, 3) := by decide +kernel
theorem dX3_toNextToken_16 : decode cX3_toNextToken 16 = .ok (.if_icmp .ge 30, 3) := by decide +kernel
theorem dX3_toNextToken_19 : decode cX3_toNextToken 19 = .ok (.aload_n 0, 1) := by decide +kernel
theorem dX3_toNextToken_20 : decode cX3_toNextToken 20 = .ok (.getfield 9, 3) := by decide +kernel
theorem dX3_toNextToken_23 : decode cX3_toNextToken 23 = .ok (.aload_n 0, 1) := by decide +kernel
theorem dX3_toNextToken_24 : decode cX3_toNextToken 24 = .ok (.getfield 100, 3) := by decide +kernel
theorem dX3_toNextToken_27 : decode cX3_toNextToken 27 = .ok (.invokevirtual 174, 3) := by decide +kernel
theorem dX3_toNextToken_30 : decode cX3_toNextToken 30 = .ok (.ifCond .eq 16, 3) := by decide +kernel
theorem dX3_toNextToken_33 : decode cX3_toNextToken 33 = .ok (.aload_n 0, 1) := by decide +kernel
theorem dX3_toNextToken_34 : decode cX3_toNextToken 34 = .ok (.dup, 1) := by decide +kernel
theorem dX3_toNextToken_35 : decode cX3_toNextToken 35 = .ok (.getfield 100, 3) := by decide +kernel
theorem dX3_toNextToken_38 : decode cX3_toNextToken 38 = .ok (.iconst 1, 1) := by decide +kernel
theorem dX3_toNextToken_39 : decode cX3_toNextToken 39 = .ok (.iadd, 1) := by decide +kernel
theorem dX3_toNextToken_40 : decode cX3_toNextToken 40 = .ok (.putfield 100, 3) := by decide +kernel
theorem dX3_toNextToken_43 : decode cX3_toNextToken 43 = .ok (.goto (-35), 3) := by decide +kernel
theorem dX3_toNextToken_46 : decode cX3_toNextToken 46 = .ok (.aload_n 0, 1) := by decide +kernel
theorem dX3_toNextToken_47 : decode cX3_toNextToken 47 = .ok (.getfield 100, 3) := by decide +kernel
theorem dX3_toNextToken_50 : decode cX3_toNextToken 50 = .ok (.aload_n 0, 1) := by decide +kernel
theorem dX3_toNextToken_51 : decode cX3_toNextToken 51 = .ok (.getfield 15, 3) := by decide +kernel
theorem dX3_toNextToken_54 : decode cX3_toNextToken 54 = .ok (.if_icmp .lt 21, 3) := by decide +kernel
theorem dX3_toNextToken_57 : decode cX3_toNextToken 57 = .ok (.aload_n 0, 1) := by decide +kernel
theorem dX3_toNextToken_58 : decode cX3_toNextToken 58 = .ok (.aload_n 0, 1) := by decide +kernel
theorem dX3_toNextToken_59 : decode cX3_toNextToken 59 = .ok (.getfield 100, 3) := by decide +kernel
theorem dX3_toNextToken_62 : decode cX3_toNextToken 62 = .ok (.putfield 103, 3) := by decide +kernel
theorem dX3_toNextToken_65 : decode cX3_toNextToken 65 = .ok (.aload_n 0, 1) := by decide +kernel
theorem dX3_toNextToken_66 : decode cX3_toNextToken 66 = .ok (.getstatic 23, 3) := by decide +kernel
theorem dX3_toNextToken_69 : decode cX3_toNextToken 69 = .ok (.putfield 29, 3) := by decide +kernel
theorem dX3_toNextToken_72 : decode cX3_toNextToken 72 = .ok (.goto 85, 3) := by decide +kernel
theorem dX3_toNextToken_75 : decode cX3_toNextToken 75 = .ok (.aload_n 0, 1) := by decide +kernel
theorem dX3_toNextToken_76 : decode cX3_toNextToken 76 = .ok (.getfield 9, 3) := by decide +kernel
theorem dX3_toNextToken_79 : decode cX3_toNextToken 79 = .ok (.aload_n 0, 1) := by decide +kernel
theorem dX3_toNextToken_80 : decode cX3_toNextToken 80 = .ok (.getfield 100, 3) := by decide +kernel
theorem dX3_toNextToken_83 : decode cX3_toNextToken 83 = .ok (.invokevirtual 177, 3) := by decide +kernel
theorem dX3_toNextToken_86 : decode cX3_toNextToken 86 = .ok (.ifCond .eq 10, 3) := by decide +kernel
theorem dX3_toNextToken_89 : decode cX3_toNextToken 89 = .ok (.aload_n 0, 1) := by decide +kernel
theorem dX3_toNextToken_90 : decode cX3_toNextToken 90 = .ok (.invokevirtual 180, 3) := by decide +kernel
theorem dX3_toNextToken_93 : decode cX3_toNextToken 93 = .ok (.goto 64, 3) := by decide +kernel
theorem dX3_toNextToken_96 : decode cX3_toNextToken 96 = .ok (.aload_n 0, 1) := by decide +kernel
theorem dX3_toNextToken_97 : decode cX3_toNextToken 97 = .ok (.getfield 9, 3) := by decide +kernel
theorem dX3_toNextToken_100 : decode cX3_toNextToken 100 = .ok (.aload_n 0, 1) := by decide +kernel
theorem dX3_toNextToken_101 : decode cX3_toNextToken 101 = .ok (.getfield 100, 3) := by decide +kernel
theorem dX3_toNextToken_104 : decode cX3_toNextToken 104 = .ok (.invokevirtual 183, 3) := by decide +kernel
theorem dX3_toNextToken_107 : decode cX3_toNextToken 107 = .ok (.ifCond .eq 10, 3) := by decide +kernel
theorem dX3_toNextToken_110 : decode cX3_toNextToken 110 = .ok (.aload_n 0, 1) := by decide +kernel
theorem dX3_toNextToken_111 : decode cX3_toNextToken 111 = .ok (.invokevirtual 186, 3) := by decide +kernel
theorem dX3_toNextToken_114 : decode cX3_toNextToken 114 = .ok (.goto 43, 3) := by decide +kernel
theorem dX3_toNextToken_117 : decode cX3_toNextToken 117 = .ok (.aload_n 0, 1) := by decide +kernel
theorem dX3_toNextToken_118 : decode cX3_toNextToken 118 = .ok (.aload_n 0, 1) := by decide +kernel
theorem dX3_toNextToken_119 : decode cX3_toNextToken 119 = .ok (.getfield 100, 3) := by decide +kernel
theorem dX3_toNextToken_122 : decode cX3_toNextToken 122 = .ok (.iconst 1, 1) := by decide +kernel
theorem dX3_toNextToken_123 : decode cX3_toNextToken 123 = .ok (.iadd, 1) := by decide +kernel
theorem dX3_toNextToken_124 : decode cX3_toNextToken 124 = .ok (.putfield 103, 3) := by decide +kernel
theorem dX3_toNextToken_127 : decode cX3_toNextToken 127 = .ok (.aload_n 0, 1) := by decide +kernel
theorem dX3_toNextToken_128 : decode cX3_toNextToken 128 = .ok (.aload_n 0, 1) := by decide +kernel
theorem dX3_toNextToken_129 : decode cX3_toNextToken 129 = .ok (.getfield 9, 3) := by decide +kernel
theorem dX3_toNextToken_132 : decode cX3_toNextToken 132 = .ok (.getfield 163, 3) := by decide +kernel
theorem dX3_toNextToken_135 : decode cX3_toNextToken 135 = .ok (.aload_n 0, 1) := by decide +kernel
theorem dX3_toNextToken_136 : decode cX3_toNextToken 136 = .ok (.getfield 100, 3) := by decide +kernel
theorem dX3_toNextToken_139 : decode cX3_toNextToken 139 = .ok (.baload, 1) := by decide +kernel
theorem dX3_toNextToken_140 : decode cX3_toNextToken 140 = .ok (.bipush 59, 2) := by decide +kernel
theorem dX3_toNextToken_142 : decode cX3_toNextToken 142 = .ok (.if_icmp .ne 9, 3) := by decide +kernel
theorem dX3_toNextToken_145 : decode cX3_toNextToken 145 = .ok (.getstatic 148, 3) := by decide +kernel
theorem dX3_toNextToken_148 : decode cX3_toNextToken 148 = .ok (.goto 6, 3) := by decide +kernel
theorem dX3_toNextToken_151 : decode cX3_toNextToken 151 = .ok (.getstatic 189, 3) := by decide +kernel
theorem dX3_toNextToken_154 : decode cX3_toNextToken 154 = .ok (.putfield 29, 3) := by decide +kernel
theorem dX3_toNextToken_157 : decode cX3_toNextToken 157 = .ok (.return_, 1) := by decide +kernel
theorem dX3_isWord_0 : decode cX3_isWord 0 = .ok (.aload_n 0, 1) := by decide +kernel
theorem dX3_isWord_1 : decode cX3_isWord 1 = .ok (.getfield 29, 3) := by decide +kernel
theorem dX3_isWord_4 : decode cX3_isWord 4 = .ok (.getstatic 97, 3) := by decide +kernel
theorem dX3_isWord_7 : decode cX3_isWord 7 = .ok (.if_acmp .ne 26, 3) := by decide +kernel
theorem dX3_isWord_10 : decode cX3_isWord 10 = .ok (.aload_n 0, 1) := by decide +kernel
theorem dX3_isWord_11 : decode cX3_isWord 11 = .ok (.getfield 9, 3) := by decide +kernel
theorem dX3_isWord_14 : decode cX3_isWord 14 = .ok (.aload_n 0, 1) := by decide +kernel
theorem dX3_isWord_15 : decode cX3_isWord 15 = .ok (.getfield 100, 3) := by decide +kernel
theorem dX3_isWord_18 : decode cX3_isWord 18 = .ok (.aload_n 0, 1) := by decide +kernel
theorem dX3_isWord_19 : decode cX3_isWord 19 = .ok (.getfield 103, 3) := by decide +kernel
theorem dX3_isWord_22 : decode cX3_isWord 22 = .ok (.aload_n 1, 1) := by decide +kernel
theorem dX3_isWord_23 : decode cX3_isWord 23 = .ok (.invokevirtual 154, 3) := by decide +kernel
theorem dX3_isWord_26 : decode cX3_isWord 26 = .ok (.ifCond .eq 7, 3) := by decide +kernel
theorem dX3_isWord_29 : decode cX3_isWord 29 = .ok (.iconst 1, 1) := by decide +kernel
theorem dX3_isWord_30 : decode cX3_isWord 30 = .ok (.goto 4, 3) := by decide +kernel
theorem dX3_isWord_33 : decode cX3_isWord 33 = .ok (.iconst 0, 1) := by decide +kernel
theorem dX3_isWord_34 : decode cX3_isWord 34 = .ok (.ireturn, 1) := by decide +kernel
theorem dX3_fail_0 : decode cX3_fail 0 = .ok (.aload_n 0, 1) := by decide +kernel
theorem dX3_fail_1 : decode cX3_fail 1 = .ok (.iload_n 1, 1) := by decide +kernel
theorem dX3_fail_2 : decode cX3_fail 2 = .ok (.putfield 151, 3) := by decide +kernel
theorem dX3_fail_5 : decode cX3_fail 5 = .ok (.aload_n 0, 1) := by decide +kernel
theorem dX3_fail_6 : decode cX3_fail 6 = .ok (.aload_n 0, 1) := by decide +kernel
theorem dX3_fail_7 : decode cX3_fail 7 = .ok (.getfield 100, 3) := by decide +kernel
theorem dX3_fail_10 : decode cX3_fail 10 = .ok (.putfield 32, 3) := by decide +kernel
theorem dX3_fail_13 : decode cX3_fail 13 = .ok (.iconst 0, 1) := by decide +kernel
theorem dX3_fail_14 : decode cX3_fail 14 = .ok (.ireturn, 1) := by decide +kernel
theorem dX3_passWord_0 : decode cX3_passWord 0 = .ok (.aload_n 0, 1) := by decide +kernel
theorem dX3_passWord_1 : decode cX3_passWord 1 = .ok (.aload_n 1, 1) := by decide +kernel
theorem dX3_passWord_2 : decode cX3_passWord 2 = .ok (.invokevirtual 66, 3) := by decide +kernel
theorem dX3_passWord_5 : decode cX3_passWord 5 = .ok (.ifCond .ne 9, 3) := by decide +kernel
theorem dX3_passWord_8 : decode cX3_passWord 8 = .ok (.aload_n 0, 1) := by decide +kernel
theorem dX3_passWord_9 : decode cX3_passWord 9 = .ok (.iconst 1, 1) := by decide +kernel
theorem dX3_passWord_10 : decode cX3_passWord 10 = .ok (.invokevirtual 90, 3) := by decide +kernel
theorem dX3_passWord_13 : decode cX3_passWord 13 = .ok (.ireturn, 1) := by decide +kernel
theorem dX3_passWord_14 : decode cX3_passWord 14 = .ok (.aload_n 0, 1) := by decide +kernel
theorem dX3_passWord_15 : decode cX3_passWord 15 = .ok (.invokevirtual 35, 3) := by decide +kernel
theorem dX3_passWord_18 : decode cX3_passWord 18 = .ok (.iconst 1, 1) := by decide +kernel
theorem dX3_passWord_19 : decode cX3_passWord 19 = .ok (.ireturn, 1) := by decide +kernel
theorem dX3_isNumber_0 : decode cX3_isNumber 0 = .ok (.aload_n 0, 1) := by decide +kernel
theorem dX3_isNumber_1 : decode cX3_isNumber 1 = .ok (.getfield 29, 3) := by decide +kernel
theorem dX3_isNumber_4 : decode cX3_isNumber 4 = .ok (.getstatic 122, 3) := by decide +kernel
theorem dX3_isNumber_7 : decode cX3_isNumber 7 = .ok (.if_acmp .eq 9, 3) := by decide +kernel
theorem dX3_isNumber_10 : decode cX3_isNumber 10 = .ok (.aload_n 0, 1) := by decide +kernel
theorem dX3_isNumber_11 : decode cX3_isNumber 11 = .ok (.iconst 1, 1) := by decide +kernel
theorem dX3_isNumber_12 : decode cX3_isNumber 12 = .ok (.invokevirtual 90, 3) := by decide +kernel
theorem dX3_isNumber_15 : decode cX3_isNumber 15 = .ok (.ireturn, 1) := by decide +kernel
theorem dX3_isNumber_16 : decode cX3_isNumber 16 = .ok (.aload_n 0, 1) := by decide +kernel
theorem dX3_isNumber_17 : decode cX3_isNumber 17 = .ok (.getfield 48, 3) := by decide +kernel
theorem dX3_isNumber_20 : decode cX3_isNumber 20 = .ok (.iload_n 1, 1) := by decide +kernel
theorem dX3_isNumber_21 : decode cX3_isNumber 21 = .ok (.if_icmp .lt 11, 3) := by decide +kernel
theorem dX3_isNumber_24 : decode cX3_isNumber 24 = .ok (.aload_n 0, 1) := by decide +kernel
theorem dX3_isNumber_25 : decode cX3_isNumber 25 = .ok (.getfield 48, 3) := by decide +kernel
theorem dX3_isNumber_28 : decode cX3_isNumber 28 = .ok (.iload_n 2, 1) := by decide +kernel
theorem dX3_isNumber_29 : decode cX3_isNumber 29 = .ok (.if_icmp .le 11, 3) := by decide +kernel
theorem dX3_isNumber_32 : decode cX3_isNumber 32 = .ok (.aload_n 0, 1) := by decide +kernel
theorem dX3_isNumber_33 : decode cX3_isNumber 33 = .ok (.iconst 3, 1) := by decide +kernel
theorem dX3_isNumber_34 : decode cX3_isNumber 34 = .ok (.invokevirtual 90, 3) := by decide +kernel
theorem dX3_isNumber_37 : decode cX3_isNumber 37 = .ok (.ifCond .eq 7, 3) := by decide +kernel
theorem dX3_isNumber_40 : decode cX3_isNumber 40 = .ok (.iconst 1, 1) := by decide +kernel
theorem dX3_isNumber_41 : decode cX3_isNumber 41 = .ok (.goto 4, 3) := by decide +kernel
theorem dX3_isNumber_44 : decode cX3_isNumber 44 = .ok (.iconst 0, 1) := by decide +kernel
theorem dX3_isNumber_45 : decode cX3_isNumber 45 = .ok (.ireturn, 1) := by decide +kernel
theorem dX5_begin_0 : decode cX5_begin 0 = .ok (.aload_n 0, 1) := by decide +kernel
theorem dX5_begin_1 : decode cX5_begin 1 = .ok (.iload_n 1, 1) := by decide +kernel
theorem dX5_begin_2 : decode cX5_begin 2 = .ok (.putfield 29, 3) := by decide +kernel
theorem dX5_begin_5 : decode cX5_begin 5 = .ok (.aload_n 0, 1) := by decide +kernel
theorem dX5_begin_6 : decode cX5_begin 6 = .ok (.iload_n 2, 1) := by decide +kernel
theorem dX5_begin_7 : decode cX5_begin 7 = .ok (.putfield 33, 3) := by decide +kernel
theorem dX5_begin_10 : decode cX5_begin 10 = .ok (.aload_n 0, 1) := by decide +kernel
theorem dX5_begin_11 : decode cX5_begin 11 = .ok (.iconst 0, 1) := by decide +kernel
theorem dX5_begin_12 : decode cX5_begin 12 = .ok (.putfield 36, 3) := by decide +kernel
theorem dX5_begin_15 : decode cX5_begin 15 = .ok (.aload_n 0, 1) := by decide +kernel
theorem dX5_begin_16 : decode cX5_begin 16 = .ok (.iconst 0, 1) := by decide +kernel
theorem dX5_begin_17 : decode cX5_begin 17 = .ok (.putfield 39, 3) := by decide +kernel
theorem dX5_begin_20 : decode cX5_begin 20 = .ok (.aload_n 0, 1) := by decide +kernel
theorem dX5_begin_21 : decode cX5_begin 21 = .ok (.iconst 0, 1) := by decide +kernel
theorem dX5_begin_22 : decode cX5_begin 22 = .ok (.putfield 42, 3) := by decide +kernel
theorem dX5_begin_25 : decode cX5_begin 25 = .ok (.aload_n 0, 1) := by decide +kernel
theorem dX5_begin_26 : decode cX5_begin 26 = .ok (.iconst 0, 1) := by decide +kernel
theorem dX5_begin_27 : decode cX5_begin 27 = .ok (.putfield 45, 3) := by decide +kernel
theorem dX5_begin_30 : decode cX5_begin 30 = .ok (.iconst 0, 1) := by decide +kernel
theorem dX5_begin_31 : decode cX5_begin 31 = .ok (.istore_n 3, 1) := by decide +kernel
theorem dX5_begin_32 : decode cX5_begin 32 = .ok (.iload_n 3, 1) := by decide +kernel
theorem dX5_begin_33 : decode cX5_begin 33 = .ok (.bipush 6, 2) := by decide +kernel
theorem dX5_begin_35 : decode cX5_begin 35 = .ok (.if_icmp .ge 29, 3) := by decide +kernel
theorem dX5_begin_38 : decode cX5_begin 38 = .ok (.aload_n 0, 1) := by decide +kernel
theorem dX5_begin_39 : decode cX5_begin 39 = .ok (.getfield 19, 3) := by decide +kernel
theorem dX5_begin_42 : decode cX5_begin 42 = .ok (.iload_n 3, 1) := by decide +kernel
theorem dX5_begin_43 : decode cX5_begin 43 = .ok (.aaload, 1) := by decide +kernel
theorem dX5_begin_44 : decode cX5_begin 44 = .ok (.iconst 0, 1) := by decide +kernel
theorem dX5_begin_45 : decode cX5_begin 45 = .ok (.putfield 48, 3) := by decide +kernel
theorem dX5_begin_48 : decode cX5_begin 48 = .ok (.aload_n 0, 1) := by decide +kernel
theorem dX5_begin_49 : decode cX5_begin 49 = .ok (.getfield 19, 3) := by decide +kernel
theorem dX5_begin_52 : decode cX5_begin 52 = .ok (.iload_n 3, 1) := by decide +kernel
theorem dX5_begin_53 : decode cX5_begin 53 = .ok (.aaload, 1) := by decide +kernel
theorem dX5_begin_54 : decode cX5_begin 54 = .ok (.iconst 0, 1) := by decide +kernel
theorem dX5_begin_55 : decode cX5_begin 55 = .ok (.putfield 52, 3) := by decide +kernel
theorem dX5_begin_58 : decode cX5_begin 58 = .ok (.iinc 3 1, 3) := by decide +kernel
theorem dX5_begin_61 : decode cX5_begin 61 = .ok (.goto (-29), 3) := by decide +kernel
theorem dX5_begin_64 : decode cX5_begin 64 = .ok (.return_, 1) := by decide +kernel
theorem dX3_passSemicolon_0 : decode cX3_passSemicolon 0 = .ok (.aload_n 0, 1) := by decide +kernel
theorem dX3_passSemicolon_1 : decode cX3_passSemicolon 1 = .ok (.getfield 29, 3) := by decide +kernel
theorem dX3_passSemicolon_4 : decode cX3_passSemicolon 4 = .ok (.getstatic 148, 3) := by decide +kernel
theorem dX3_passSemicolon_7 : decode cX3_passSemicolon 7 = .ok (.if_acmp .eq 9, 3) := by decide +kernel
theorem dX3_passSemicolon_10 : decode cX3_passSemicolon 10 = .ok (.aload_n 0, 1) := by decide +kernel
theorem dX3_passSemicolon_11 : decode cX3_passSemicolon 11 = .ok (.iconst 1, 1) := by decide +kernel
theorem dX3_passSemicolon_12 : decode cX3_passSemicolon 12 = .ok (.invokevirtual 90, 3) := by decide +kernel
theorem dX3_passSemicolon_15 : decode cX3_passSemicolon 15 = .ok (.ireturn, 1) := by decide +kernel
theorem dX3_passSemicolon_16 : decode cX3_passSemicolon 16 = .ok (.aload_n 0, 1) := by decide +kernel
theorem dX3_passSemicolon_17 : decode cX3_passSemicolon 17 = .ok (.invokevirtual 35, 3) := by decide +kernel
theorem dX3_passSemicolon_20 : decode cX3_passSemicolon 20 = .ok (.iconst 1, 1) := by decide +kernel
theorem dX3_passSemicolon_21 : decode cX3_passSemicolon 21 = .ok (.ireturn, 1) := by decide +kernel
theorem dX5_setNamed_0 : decode cX5_setNamed 0 = .ok (.iconst 0, 1) := by decide +kernel
theorem dX5_setNamed_1 : decode cX5_setNamed 1 = .ok (.istore 4, 2) := by decide +kernel
theorem dX5_setNamed_3 : decode cX5_setNamed 3 = .ok (.iload 4, 2) := by decide +kernel
theorem dX5_setNamed_5 : decode cX5_setNamed 5 = .ok (.aload_n 0, 1) := by decide +kernel
theorem dX5_setNamed_6 : decode cX5_setNamed 6 = .ok (.getfield 36, 3) := by decide +kernel
theorem dX5_setNamed_9 : decode cX5_setNamed 9 = .ok (.if_icmp .ge 31, 3) := by decide +kernel
theorem dX5_setNamed_12 : decode cX5_setNamed 12 = .ok (.aload_n 1, 1) := by decide +kernel
theorem dX5_setNamed_13 : decode cX5_setNamed 13 = .ok (.iload_n 2, 1) := by decide +kernel
theorem dX5_setNamed_14 : decode cX5_setNamed 14 = .ok (.iload_n 3, 1) := by decide +kernel
theorem dX5_setNamed_15 : decode cX5_setNamed 15 = .ok (.aload_n 0, 1) := by decide +kernel
theorem dX5_setNamed_16 : decode cX5_setNamed 16 = .ok (.getfield 11, 3) := by decide +kernel
theorem dX5_setNamed_19 : decode cX5_setNamed 19 = .ok (.iload 4, 2) := by decide +kernel
theorem dX5_setNamed_21 : decode cX5_setNamed 21 = .ok (.aaload, 1) := by decide +kernel
theorem dX5_setNamed_22 : decode cX5_setNamed 22 = .ok (.getfield 72, 3) := by decide +kernel
theorem dX5_setNamed_25 : decode cX5_setNamed 25 = .ok (.invokevirtual 76, 3) := by decide +kernel
theorem dX5_setNamed_28 : decode cX5_setNamed 28 = .ok (.ifCond .eq 6, 3) := by decide +kernel
theorem dX5_setNamed_31 : decode cX5_setNamed 31 = .ok (.iload 4, 2) := by decide +kernel
theorem dX5_setNamed_33 : decode cX5_setNamed 33 = .ok (.ireturn, 1) := by decide +kernel
theorem dX5_setNamed_34 : decode cX5_setNamed 34 = .ok (.iinc 4 1, 3) := by decide +kernel
theorem dX5_setNamed_37 : decode cX5_setNamed 37 = .ok (.goto (-34), 3) := by decide +kernel
theorem dX5_setNamed_40 : decode cX5_setNamed 40 = .ok (.iconst (-1), 1) := by decide +kernel
theorem dX5_setNamed_41 : decode cX5_setNamed 41 = .ok (.ireturn, 1) := by decide +kernel
theorem dJ5_init_d00df_0 : decode cJ5_init_d00df 0 = .ok (.aload_n 0, 1) := by decide +kernel
theorem dJ5_init_d00df_1 : decode cJ5_init_d00df 1 = .ok (.invokespecial 3, 3) := by decide +kernel
theorem dJ5_init_d00df_4 : decode cJ5_init_d00df 4 = .ok (.getstatic 18, 3) := by decide +kernel
theorem dJ5_init_d00df_7 : decode cJ5_init_d00df 7 = .ok (.ifCond .eq 18, 3) := by decide +kernel
theorem dJ5_init_d00df_10 : decode cJ5_init_d00df 10 = .ok (.aload_n 0, 1) := by decide +kernel
theorem dJ5_init_d00df_11 : decode cJ5_init_d00df 11 = .ok (.iload_n 1, 1) := by decide +kernel
theorem dJ5_init_d00df_12 : decode cJ5_init_d00df 12 = .ok (.newarray .byte, 2) := by decide +kernel
theorem dJ5_init_d00df_14 : decode cJ5_init_d00df 14 = .ok (.putfield 15, 3) := by decide +kernel
theorem dJ5_init_d00df_17 : decode cJ5_init_d00df 17 = .ok (.aload_n 0, 1) := by decide +kernel
theorem dJ5_init_d00df_18 : decode cJ5_init_d00df 18 = .ok (.iconst 0, 1) := by decide +kernel
theorem dJ5_init_d00df_19 : decode cJ5_init_d00df 19 = .ok (.putfield 22, 3) := by decide +kernel
theorem dJ5_init_d00df_22 : decode cJ5_init_d00df 22 = .ok (.goto 16, 3) := by decide +kernel
theorem dJ5_init_d00df_25 : decode cJ5_init_d00df 25 = .ok (.aload_n 0, 1) := by decide +kernel
theorem dJ5_init_d00df_26 : decode cJ5_init_d00df 26 = .ok (.iload_n 1, 1) := by decide +kernel
theorem dJ5_init_d00df_27 : decode cJ5_init_d00df 27 = .ok (.invokestatic 26, 3) := by decide +kernel
theorem dJ5_init_d00df_30 : decode cJ5_init_d00df 30 = .ok (.putfield 15, 3) := by decide +kernel
theorem dJ5_init_d00df_33 : decode cJ5_init_d00df 33 = .ok (.aload_n 0, 1) := by decide +kernel
theorem dJ5_init_d00df_34 : decode cJ5_init_d00df 34 = .ok (.iconst 1, 1) := by decide +kernel
theorem dJ5_init_d00df_35 : decode cJ5_init_d00df 35 = .ok (.putfield 22, 3) := by decide +kernel
theorem dJ5_init_d00df_38 : decode cJ5_init_d00df 38 = .ok (.return_, 1) := by decide +kernel
theorem dJ4_init_da8c8_0 : decode cJ4_init_da8c8 0 = .ok (.aload_n 0, 1) := by decide +kernel
theorem dJ4_init_da8c8_1 : decode cJ4_init_da8c8 1 = .ok (.bipush 16, 2) := by decide +kernel
theorem dJ4_init_da8c8_3 : decode cJ4_init_da8c8 3 = .ok (.invokespecial 1, 3) := by decide +kernel
theorem dJ4_init_da8c8_6 : decode cJ4_init_da8c8 6 = .ok (.return_, 1) := by decide +kernel
theorem dJ7_copyOf_9075b_0 : decode cJ7_copyOf_9075b 0 = .ok (.iload_n 1, 1) := by decide +kernel
theorem dJ7_copyOf_9075b_1 : decode cJ7_copyOf_9075b 1 = .ok (.aload_n 0, 1) := by decide +kernel
theorem dJ7_copyOf_9075b_2 : decode cJ7_copyOf_9075b 2 = .ok (.arraylength, 1) := by decide +kernel
theorem dJ7_copyOf_9075b_3 : decode cJ7_copyOf_9075b 3 = .ok (.if_icmp .ne 11, 3) := by decide +kernel
theorem dJ7_copyOf_9075b_6 : decode cJ7_copyOf_9075b 6 = .ok (.aload_n 0, 1) := by decide +kernel
theorem dJ7_copyOf_9075b_7 : decode cJ7_copyOf_9075b 7 = .ok (.invokevirtual 310, 3) := by decide +kernel
theorem dJ7_copyOf_9075b_10 : decode cJ7_copyOf_9075b 10 = .ok (.checkcast 311, 3) := by decide +kernel
theorem dJ7_copyOf_9075b_13 : decode cJ7_copyOf_9075b 13 = .ok (.areturn, 1) := by decide +kernel
theorem dJ7_copyOf_9075b_14 : decode cJ7_copyOf_9075b 14 = .ok (.iload_n 1, 1) := by decide +kernel
theorem dJ7_copyOf_9075b_15 : decode cJ7_copyOf_9075b 15 = .ok (.newarray .byte, 2) := by decide +kernel
theorem dJ7_copyOf_9075b_17 : decode cJ7_copyOf_9075b 17 = .ok (.astore_n 2, 1) := by decide +kernel
theorem dJ7_copyOf_9075b_18 : decode cJ7_copyOf_9075b 18 = .ok (.aload_n 0, 1) := by decide +kernel
theorem dJ7_copyOf_9075b_19 : decode cJ7_copyOf_9075b 19 = .ok (.iconst 0, 1) := by decide +kernel
theorem dJ7_copyOf_9075b_20 : decode cJ7_copyOf_9075b 20 = .ok (.aload_n 2, 1) := by decide +kernel
theorem dJ7_copyOf_9075b_21 : decode cJ7_copyOf_9075b 21 = .ok (.iconst 0, 1) := by decide +kernel
theorem dJ7_copyOf_9075b_22 : decode cJ7_copyOf_9075b 22 = .ok (.aload_n 0, 1) := by decide +kernel
theorem dJ7_copyOf_9075b_23 : decode cJ7_copyOf_9075b 23 = .ok (.arraylength, 1) := by decide +kernel
theorem dJ7_copyOf_9075b_24 : decode cJ7_copyOf_9075b 24 = .ok (.iload_n 1, 1) := by decide +kernel
theorem dJ7_copyOf_9075b_25 : decode cJ7_copyOf_9075b 25 = .ok (.invokestatic 304, 3) := by decide +kernel
theorem dJ7_copyOf_9075b_28 : decode cJ7_copyOf_9075b 28 = .ok (.invokestatic 150, 3) := by decide +kernel
theorem dJ7_copyOf_9075b_31 : decode cJ7_copyOf_9075b 31 = .ok (.aload_n 2, 1) := by decide +kernel
theorem dJ7_copyOf_9075b_32 : decode cJ7_copyOf_9075b 32 = .ok (.areturn, 1) := by decide +kernel
theorem dJ5_ensureCapacityInternal_d00df_0 : decode cJ5_ensureCapacityInternal_d00df 0 = .ok (.aload_n 0, 1) := by decide +kernel
theorem dJ5_ensureCapacityInternal_d00df_1 : decode cJ5_ensureCapacityInternal_d00df 1 = .ok (.getfield 15, 3) := by decide +kernel
theorem dJ5_ensureCapacityInternal_d00df_4 : decode cJ5_ensureCapacityInternal_d00df 4 = .ok (.arraylength, 1) := by decide +kernel
theorem dJ5_ensureCapacityInternal_d00df_5 : decode cJ5_ensureCapacityInternal_d00df 5 = .ok (.aload_n 0, 1) := by decide +kernel
theorem dJ5_ensureCapacityInternal_d00df_6 : decode cJ5_ensureCapacityInternal_d00df 6 = .ok (.getfield 22, 3) := by decide +kernel
theorem dJ5_ensureCapacityInternal_d00df_9 : decode cJ5_ensureCapacityInternal_d00df 9 = .ok (.ishr, 1) := by decide +kernel
theorem dJ5_ensureCapacityInternal_d00df_10 : decode cJ5_ensureCapacityInternal_d00df 10 = .ok (.istore_n 2, 1) := by decide +kernel
theorem dJ5_ensureCapacityInternal_d00df_11 : decode cJ5_ensureCapacityInternal_d00df 11 = .ok (.iload_n 1, 1) := by decide +kernel
theorem dJ5_ensureCapacityInternal_d00df_12 : decode cJ5_ensureCapacityInternal_d00df 12 = .ok (.iload_n 2, 1) := by decide +kernel
theorem dJ5_ensureCapacityInternal_d00df_13 : decode cJ5_ensureCapacityInternal_d00df 13 = .ok (.isub, 1) := by decide +kernel
theorem dJ5_ensureCapacityInternal_d00df_14 : decode cJ5_ensureCapacityInternal_d00df 14 = .ok (.ifCond .le 24, 3) := by decide +kernel
theorem dJ5_ensureCapacityInternal_d00df_17 : decode cJ5_ensureCapacityInternal_d00df 17 = .ok (.aload_n 0, 1) := by decide +kernel
theorem dJ5_ensureCapacityInternal_d00df_18 : decode cJ5_ensureCapacityInternal_d00df 18 = .ok (.aload_n 0, 1) := by decide +kernel
theorem dJ5_ensureCapacityInternal_d00df_19 : decode cJ5_ensureCapacityInternal_d00df 19 = .ok (.getfield 15, 3) := by decide +kernel
theorem dJ5_ensureCapacityInternal_d00df_22 : decode cJ5_ensureCapacityInternal_d00df 22 = .ok (.aload_n 0, 1) := by decide +kernel
theorem dJ5_ensureCapacityInternal_d00df_23 : decode cJ5_ensureCapacityInternal_d00df 23 = .ok (.iload_n 1, 1) := by decide +kernel
theorem dJ5_ensureCapacityInternal_d00df_24 : decode cJ5_ensureCapacityInternal_d00df 24 = .ok (.invokevirtual 104, 3) := by decide +kernel
theorem dJ5_ensureCapacityInternal_d00df_27 : decode cJ5_ensureCapacityInternal_d00df 27 = .ok (.aload_n 0, 1) := by decide +kernel
theorem dJ5_ensureCapacityInternal_d00df_28 : decode cJ5_ensureCapacityInternal_d00df 28 = .ok (.getfield 22, 3) := by decide +kernel
theorem dJ5_ensureCapacityInternal_d00df_31 : decode cJ5_ensureCapacityInternal_d00df 31 = .ok (.ishl, 1) := by decide +kernel
theorem dJ5_ensureCapacityInternal_d00df_32 : decode cJ5_ensureCapacityInternal_d00df 32 = .ok (.invokestatic 108, 3) := by decide +kernel
theorem dJ5_ensureCapacityInternal_d00df_35 : decode cJ5_ensureCapacityInternal_d00df 35 = .ok (.putfield 15, 3) := by decide +kernel
theorem dJ5_ensureCapacityInternal_d00df_38 : decode cJ5_ensureCapacityInternal_d00df 38 = .ok (.return_, 1) := by decide +kernel
theorem dJ5_isLatin1_aae02_0 : decode cJ5_isLatin1_aae02 0 = .ok (.getstatic 18, 3) := by decide +kernel
theorem dJ5_isLatin1_aae02_3 : decode cJ5_isLatin1_aae02 3 = .ok (.ifCond .eq 14, 3) := by decide +kernel
theorem dJ5_isLatin1_aae02_6 : decode cJ5_isLatin1_aae02 6 = .ok (.aload_n 0, 1) := by decide +kernel
theorem dJ5_isLatin1_aae02_7 : decode cJ5_isLatin1_aae02 7 = .ok (.getfield 22, 3) := by decide +kernel
theorem dJ5_isLatin1_aae02_10 : decode cJ5_isLatin1_aae02 10 = .ok (.ifCond .ne 7, 3) := by decide +kernel
theorem dJ5_isLatin1_aae02_13 : decode cJ5_isLatin1_aae02 13 = .ok (.iconst 1, 1) := by decide +kernel
theorem dJ5_isLatin1_aae02_14 : decode cJ5_isLatin1_aae02 14 = .ok (.goto 4, 3) := by decide +kernel
theorem dJ5_isLatin1_aae02_17 : decode cJ5_isLatin1_aae02 17 = .ok (.iconst 0, 1) := by decide +kernel
theorem dJ5_isLatin1_aae02_18 : decode cJ5_isLatin1_aae02 18 = .ok (.ireturn, 1) := by decide +kernel
theorem dJ1_canEncode_fc78d_0 : decode cJ1_canEncode_fc78d 0 = .ok (.iload_n 0, 1) := by decide +kernel
theorem dJ1_canEncode_fc78d_1 : decode cJ1_canEncode_fc78d 1 = .ok (.sipush 255, 3) := by decide +kernel
theorem dJ1_canEncode_fc78d_4 : decode cJ1_canEncode_fc78d 4 = .ok (.if_icmp .gt 7, 3) := by decide +kernel
theorem dJ1_canEncode_fc78d_7 : decode cJ1_canEncode_fc78d 7 = .ok (.iconst 1, 1) := by decide +kernel
theorem dJ1_canEncode_fc78d_8 : decode cJ1_canEncode_fc78d 8 = .ok (.goto 4, 3) := by decide +kernel
theorem dJ1_canEncode_fc78d_11 : decode cJ1_canEncode_fc78d 11 = .ok (.iconst 0, 1) := by decide +kernel
theorem dJ1_canEncode_fc78d_12 : decode cJ1_canEncode_fc78d 12 = .ok (.ireturn, 1) := by decide +kernel
theorem dJ5_append_3fe6f_0 : decode cJ5_append_3fe6f 0 = .ok (.aload_n 0, 1) := by decide +kernel
theorem dJ5_append_3fe6f_1 : decode cJ5_append_3fe6f 1 = .ok (.aload_n 0, 1) := by decide +kernel
theorem dJ5_append_3fe6f_2 : decode cJ5_append_3fe6f 2 = .ok (.getfield 79, 3) := by decide +kernel
theorem dJ5_append_3fe6f_5 : decode cJ5_append_3fe6f 5 = .ok (.iconst 1, 1) := by decide +kernel
theorem dJ5_append_3fe6f_6 : decode cJ5_append_3fe6f 6 = .ok (.iadd, 1) := by decide +kernel
theorem dJ5_append_3fe6f_7 : decode cJ5_append_3fe6f 7 = .ok (.invokevirtual 100, 3) := by decide +kernel
theorem dJ5_append_3fe6f_10 : decode cJ5_append_3fe6f 10 = .ok (.aload_n 0, 1) := by decide +kernel
theorem dJ5_append_3fe6f_11 : decode cJ5_append_3fe6f 11 = .ok (.invokevirtual 83, 3) := by decide +kernel
theorem dJ5_append_3fe6f_14 : decode cJ5_append_3fe6f 14 = .ok (.ifCond .eq 31, 3) := by decide +kernel
theorem dJ5_append_3fe6f_17 : decode cJ5_append_3fe6f 17 = .ok (.iload_n 1, 1) := by decide +kernel
theorem dJ5_append_3fe6f_18 : decode cJ5_append_3fe6f 18 = .ok (.invokestatic 191, 3) := by decide +kernel
theorem dJ5_append_3fe6f_21 : decode cJ5_append_3fe6f 21 = .ok (.ifCond .eq 24, 3) := by decide +kernel
theorem dJ5_append_3fe6f_24 : decode cJ5_append_3fe6f 24 = .ok (.aload_n 0, 1) := by decide +kernel
theorem dJ5_append_3fe6f_25 : decode cJ5_append_3fe6f 25 = .ok (.getfield 15, 3) := by decide +kernel
theorem dJ5_append_3fe6f_28 : decode cJ5_append_3fe6f 28 = .ok (.aload_n 0, 1) := by decide +kernel
theorem dJ5_append_3fe6f_29 : decode cJ5_append_3fe6f 29 = .ok (.dup, 1) := by decide +kernel
theorem dJ5_append_3fe6f_30 : decode cJ5_append_3fe6f 30 = .ok (.getfield 79, 3) := by decide +kernel
theorem dJ5_append_3fe6f_33 : decode cJ5_append_3fe6f 33 = .ok (.dup_x1, 1) := by decide +kernel
theorem dJ5_append_3fe6f_34 : decode cJ5_append_3fe6f 34 = .ok (.iconst 1, 1) := by decide +kernel
theorem dJ5_append_3fe6f_35 : decode cJ5_append_3fe6f 35 = .ok (.iadd, 1) := by decide +kernel
theorem dJ5_append_3fe6f_36 : decode cJ5_append_3fe6f 36 = .ok (.putfield 79, 3) := by decide +kernel
theorem dJ5_append_3fe6f_39 : decode cJ5_append_3fe6f 39 = .ok (.iload_n 1, 1) := by decide +kernel
theorem dJ5_append_3fe6f_40 : decode cJ5_append_3fe6f 40 = .ok (.i2b, 1) := by decide +kernel
theorem dJ5_append_3fe6f_41 : decode cJ5_append_3fe6f 41 = .ok (.bastore, 1) := by decide +kernel
theorem dJ5_append_3fe6f_42 : decode cJ5_append_3fe6f 42 = .ok (.goto 33, 3) := by decide +kernel
theorem dJ5_append_3fe6f_45 : decode cJ5_append_3fe6f 45 = .ok (.aload_n 0, 1) := by decide +kernel
theorem dJ5_append_3fe6f_46 : decode cJ5_append_3fe6f 46 = .ok (.invokevirtual 83, 3) := by decide +kernel
theorem dJ5_append_3fe6f_49 : decode cJ5_append_3fe6f 49 = .ok (.ifCond .eq 7, 3) := by decide +kernel
theorem dJ5_append_3fe6f_52 : decode cJ5_append_3fe6f 52 = .ok (.aload_n 0, 1) := by decide +kernel
theorem dJ5_append_3fe6f_53 : decode cJ5_append_3fe6f 53 = .ok (.invokevirtual 195, 3) := by decide +kernel
theorem dJ5_append_3fe6f_56 : decode cJ5_append_3fe6f 56 = .ok (.aload_n 0, 1) := by decide +kernel
theorem dJ5_append_3fe6f_57 : decode cJ5_append_3fe6f 57 = .ok (.getfield 15, 3) := by decide +kernel
theorem dJ5_append_3fe6f_60 : decode cJ5_append_3fe6f 60 = .ok (.aload_n 0, 1) := by decide +kernel
theorem dJ5_append_3fe6f_61 : decode cJ5_append_3fe6f 61 = .ok (.dup, 1) := by decide +kernel
theorem dJ5_append_3fe6f_62 : decode cJ5_append_3fe6f 62 = .ok (.getfield 79, 3) := by decide +kernel
theorem dJ5_append_3fe6f_65 : decode cJ5_append_3fe6f 65 = .ok (.dup_x1, 1) := by decide +kernel
theorem dJ5_append_3fe6f_66 : decode cJ5_append_3fe6f 66 = .ok (.iconst 1, 1) := by decide +kernel
theorem dJ5_append_3fe6f_67 : decode cJ5_append_3fe6f 67 = .ok (.iadd, 1) := by decide +kernel
theorem dJ5_append_3fe6f_68 : decode cJ5_append_3fe6f 68 = .ok (.putfield 79, 3) := by decide +kernel
theorem dJ5_append_3fe6f_71 : decode cJ5_append_3fe6f 71 = .ok (.iload_n 1, 1) := by decide +kernel
theorem dJ5_append_3fe6f_72 : decode cJ5_append_3fe6f 72 = .ok (.invokestatic 197, 3) := by decide +kernel
theorem dJ5_append_3fe6f_75 : decode cJ5_append_3fe6f 75 = .ok (.aload_n 0, 1) := by decide +kernel
theorem dJ5_append_3fe6f_76 : decode cJ5_append_3fe6f 76 = .ok (.areturn, 1) := by decide +kernel
theorem dJ4_append_cf468_0 : decode cJ4_append_cf468 0 = .ok (.aload_n 0, 1) := by decide +kernel
theorem dJ4_append_cf468_1 : decode cJ4_append_cf468 1 = .ok (.iload_n 1, 1) := by decide +kernel
theorem dJ4_append_cf468_2 : decode cJ4_append_cf468 2 = .ok (.invokespecial 50, 3) := by decide +kernel
theorem dJ4_append_cf468_5 : decode cJ4_append_cf468 5 = .ok (.pop, 1) := by decide +kernel
theorem dJ4_append_cf468_6 : decode cJ4_append_cf468 6 = .ok (.aload_n 0, 1) := by decide +kernel
theorem dJ4_append_cf468_7 : decode cJ4_append_cf468 7 = .ok (.areturn, 1) := by decide +kernel
theorem dJ5_getValue_6d5f1_0 : decode cJ5_getValue_6d5f1 0 = .ok (.aload_n 0, 1) := by decide +kernel
theorem dJ5_getValue_6d5f1_1 : decode cJ5_getValue_6d5f1 1 = .ok (.getfield 15, 3) := by decide +kernel
theorem dJ5_getValue_6d5f1_4 : decode cJ5_getValue_6d5f1 4 = .ok (.areturn, 1) := by decide +kernel
theorem dJ5_length_8abf5_0 : decode cJ5_length_8abf5 0 = .ok (.aload_n 0, 1) := by decide +kernel
theorem dJ5_length_8abf5_1 : decode cJ5_length_8abf5 1 = .ok (.getfield 79, 3) := by decide +kernel
theorem dJ5_length_8abf5_4 : decode cJ5_length_8abf5 4 = .ok (.ireturn, 1) := by decide +kernel
theorem dJ4_length_8abf5_0 : decode cJ4_length_8abf5 0 = .ok (.aload_n 0, 1) := by decide +kernel
theorem dJ4_length_8abf5_1 : decode cJ4_length_8abf5 1 = .ok (.invokespecial 343, 3) := by decide +kernel
theorem dJ4_length_8abf5_4 : decode cJ4_length_8abf5 4 = .ok (.ireturn, 1) := by decide +kernel
theorem dJ7_checkLength_df160_0 : decode cJ7_checkLength_df160 0 = .ok (.iload_n 1, 1) := by decide +kernel
theorem dJ7_checkLength_df160_1 : decode cJ7_checkLength_df160 1 = .ok (.iload_n 0, 1) := by decide +kernel
theorem dJ7_checkLength_df160_2 : decode cJ7_checkLength_df160 2 = .ok (.if_icmp .ge 35, 3) := by decide +kernel
theorem dJ7_checkLength_df160_5 : decode cJ7_checkLength_df160 5 = .ok (.new 43, 3) := by decide +kernel
theorem dJ7_checkLength_df160_8 : decode cJ7_checkLength_df160 8 = .ok (.dup, 1) := by decide +kernel
theorem dJ7_checkLength_df160_9 : decode cJ7_checkLength_df160 9 = .ok (.new 45, 3) := by decide +kernel
theorem dJ7_checkLength_df160_12 : decode cJ7_checkLength_df160 12 = .ok (.dup, 1) := by decide +kernel
theorem dJ7_checkLength_df160_13 : decode cJ7_checkLength_df160 13 = .ok (.invokespecial 47, 3) := by decide +kernel
theorem dJ7_checkLength_df160_16 : decode cJ7_checkLength_df160 16 = .ok (.iload_n 0, 1) := by decide +kernel
theorem dJ7_checkLength_df160_17 : decode cJ7_checkLength_df160 17 = .ok (.invokevirtual 54, 3) := by decide +kernel
theorem dJ7_checkLength_df160_20 : decode cJ7_checkLength_df160 20 = .ok (.ldc_w 337, 3) := by decide +kernel
theorem dJ7_checkLength_df160_23 : decode cJ7_checkLength_df160 23 = .ok (.invokevirtual 50, 3) := by decide +kernel
theorem dJ7_checkLength_df160_26 : decode cJ7_checkLength_df160 26 = .ok (.iload_n 1, 1) := by decide +kernel
theorem dJ7_checkLength_df160_27 : decode cJ7_checkLength_df160 27 = .ok (.invokevirtual 54, 3) := by decide +kernel
theorem dJ7_checkLength_df160_30 : decode cJ7_checkLength_df160 30 = .ok (.invokevirtual 61, 3) := by decide +kernel
theorem dJ7_checkLength_df160_33 : decode cJ7_checkLength_df160 33 = .ok (.invokespecial 65, 3) := by decide +kernel
theorem dJ7_checkLength_df160_36 : decode cJ7_checkLength_df160 36 = .ok (.athrow, 1) := by decide +kernel
theorem dJ7_checkLength_df160_37 : decode cJ7_checkLength_df160 37 = .ok (.return_, 1) := by decide +kernel
theorem dJ7_copyOfRangeByte_39247_0 : decode cJ7_copyOfRangeByte_39247 0 = .ok (.iload_n 1, 1) := by decide +kernel
theorem dJ7_copyOfRangeByte_39247_1 : decode cJ7_copyOfRangeByte_39247 1 = .ok (.iload_n 2, 1) := by decide +kernel
theorem dJ7_copyOfRangeByte_39247_2 : decode cJ7_copyOfRangeByte_39247 2 = .ok (.invokestatic 343, 3) := by decide +kernel
theorem dJ7_copyOfRangeByte_39247_5 : decode cJ7_copyOfRangeByte_39247 5 = .ok (.iload_n 2, 1) := by decide +kernel
theorem dJ7_copyOfRangeByte_39247_6 : decode cJ7_copyOfRangeByte_39247 6 = .ok (.iload_n 1, 1) := by decide +kernel
theorem dJ7_copyOfRangeByte_39247_7 : decode cJ7_copyOfRangeByte_39247 7 = .ok (.isub, 1) := by decide +kernel
theorem dJ7_copyOfRangeByte_39247_8 : decode cJ7_copyOfRangeByte_39247 8 = .ok (.istore_n 3, 1) := by decide +kernel
theorem dJ7_copyOfRangeByte_39247_9 : decode cJ7_copyOfRangeByte_39247 9 = .ok (.iload_n 3, 1) := by decide +kernel
theorem dJ7_copyOfRangeByte_39247_10 : decode cJ7_copyOfRangeByte_39247 10 = .ok (.newarray .byte, 2) := by decide +kernel
theorem dJ7_copyOfRangeByte_39247_12 : decode cJ7_copyOfRangeByte_39247 12 = .ok (.astore 4, 2) := by decide +kernel
theorem dJ7_copyOfRangeByte_39247_14 : decode cJ7_copyOfRangeByte_39247 14 = .ok (.aload_n 0, 1) := by decide +kernel
theorem dJ7_copyOfRangeByte_39247_15 : decode cJ7_copyOfRangeByte_39247 15 = .ok (.iload_n 1, 1) := by decide +kernel
theorem dJ7_copyOfRangeByte_39247_16 : decode cJ7_copyOfRangeByte_39247 16 = .ok (.aload 4, 2) := by decide +kernel
theorem dJ7_copyOfRangeByte_39247_18 : decode cJ7_copyOfRangeByte_39247 18 = .ok (.iconst 0, 1) := by decide +kernel
theorem dJ7_copyOfRangeByte_39247_19 : decode cJ7_copyOfRangeByte_39247 19 = .ok (.aload_n 0, 1) := by decide +kernel
theorem dJ7_copyOfRangeByte_39247_20 : decode cJ7_copyOfRangeByte_39247 20 = .ok (.arraylength, 1) := by decide +kernel
theorem dJ7_copyOfRangeByte_39247_21 : decode cJ7_copyOfRangeByte_39247 21 = .ok (.iload_n 1, 1) := by decide +kernel
theorem dJ7_copyOfRangeByte_39247_22 : decode cJ7_copyOfRangeByte_39247 22 = .ok (.isub, 1) := by decide +kernel
theorem dJ7_copyOfRangeByte_39247_23 : decode cJ7_copyOfRangeByte_39247 23 = .ok (.iload_n 3, 1) := by decide +kernel
theorem dJ7_copyOfRangeByte_39247_24 : decode cJ7_copyOfRangeByte_39247 24 = .ok (.invokestatic 304, 3) := by decide +kernel
theorem dJ7_copyOfRangeByte_39247_27 : decode cJ7_copyOfRangeByte_39247 27 = .ok (.invokestatic 150, 3) := by decide +kernel
theorem dJ7_copyOfRangeByte_39247_30 : decode cJ7_copyOfRangeByte_39247 30 = .ok (.aload 4, 2) := by decide +kernel
theorem dJ7_copyOfRangeByte_39247_32 : decode cJ7_copyOfRangeByte_39247 32 = .ok (.areturn, 1) := by decide +kernel
theorem dJ7_copyOfRange_39247_0 : decode cJ7_copyOfRange_39247 0 = .ok (.iload_n 1, 1) := by decide +kernel
theorem dJ7_copyOfRange_39247_1 : decode cJ7_copyOfRange_39247 1 = .ok (.ifCond .ne 9, 3) := by decide +kernel
theorem dJ7_copyOfRange_39247_4 : decode cJ7_copyOfRange_39247 4 = .ok (.iload_n 2, 1) := by decide +kernel
theorem dJ7_copyOfRange_39247_5 : decode cJ7_copyOfRange_39247 5 = .ok (.aload_n 0, 1) := by decide +kernel
theorem dJ7_copyOfRange_39247_6 : decode cJ7_copyOfRange_39247 6 = .ok (.arraylength, 1) := by decide +kernel
theorem dJ7_copyOfRange_39247_7 : decode cJ7_copyOfRange_39247 7 = .ok (.if_icmp .eq 10, 3) := by decide +kernel
theorem dJ7_copyOfRange_39247_10 : decode cJ7_copyOfRange_39247 10 = .ok (.aload_n 0, 1) := by decide +kernel
theorem dJ7_copyOfRange_39247_11 : decode cJ7_copyOfRange_39247 11 = .ok (.iload_n 1, 1) := by decide +kernel
theorem dJ7_copyOfRange_39247_12 : decode cJ7_copyOfRange_39247 12 = .ok (.iload_n 2, 1) := by decide +kernel
theorem dJ7_copyOfRange_39247_13 : decode cJ7_copyOfRange_39247 13 = .ok (.invokestatic 339, 3) := by decide +kernel
theorem dJ7_copyOfRange_39247_16 : decode cJ7_copyOfRange_39247 16 = .ok (.areturn, 1) := by decide +kernel
theorem dJ7_copyOfRange_39247_17 : decode cJ7_copyOfRange_39247 17 = .ok (.aload_n 0, 1) := by decide +kernel
theorem dJ7_copyOfRange_39247_18 : decode cJ7_copyOfRange_39247 18 = .ok (.invokevirtual 310, 3) := by decide +kernel
theorem dJ7_copyOfRange_39247_21 : decode cJ7_copyOfRange_39247 21 = .ok (.checkcast 311, 3) := by decide +kernel
theorem dJ7_copyOfRange_39247_24 : decode cJ7_copyOfRange_39247 24 = .ok (.areturn, 1) := by decide +kernel
theorem dJ0_init_db425_0 : decode cJ0_init_db425 0 = .ok (.aload_n 0, 1) := by decide +kernel
theorem dJ0_init_db425_1 : decode cJ0_init_db425 1 = .ok (.invokespecial 1, 3) := by decide +kernel
theorem dJ0_init_db425_4 : decode cJ0_init_db425 4 = .ok (.aload_n 1, 1) := by decide +kernel
theorem dJ0_init_db425_5 : decode cJ0_init_db425 5 = .ok (.invokevirtual 552, 3) := by decide +kernel
theorem dJ0_init_db425_8 : decode cJ0_init_db425 8 = .ok (.astore_n 3, 1) := by decide +kernel
theorem dJ0_init_db425_9 : decode cJ0_init_db425 9 = .ok (.aload_n 1, 1) := by decide +kernel
theorem dJ0_init_db425_10 : decode cJ0_init_db425 10 = .ok (.invokevirtual 549, 3) := by decide +kernel
theorem dJ0_init_db425_13 : decode cJ0_init_db425 13 = .ok (.istore 4, 2) := by decide +kernel
theorem dJ0_init_db425_15 : decode cJ0_init_db425 15 = .ok (.aload_n 1, 1) := by decide +kernel
theorem dJ0_init_db425_16 : decode cJ0_init_db425 16 = .ok (.invokevirtual 1047, 3) := by decide +kernel
theorem dJ0_init_db425_19 : decode cJ0_init_db425 19 = .ok (.ifCond .eq 22, 3) := by decide +kernel
theorem dJ0_init_db425_22 : decode cJ0_init_db425 22 = .ok (.aload_n 0, 1) := by decide +kernel
theorem dJ0_init_db425_23 : decode cJ0_init_db425 23 = .ok (.iconst 0, 1) := by decide +kernel
theorem dJ0_init_db425_24 : decode cJ0_init_db425 24 = .ok (.putfield 15, 3) := by decide +kernel
theorem dJ0_init_db425_27 : decode cJ0_init_db425 27 = .ok (.aload_n 0, 1) := by decide +kernel
theorem dJ0_init_db425_28 : decode cJ0_init_db425 28 = .ok (.aload_n 3, 1) := by decide +kernel
theorem dJ0_init_db425_29 : decode cJ0_init_db425 29 = .ok (.iconst 0, 1) := by decide +kernel
theorem dJ0_init_db425_30 : decode cJ0_init_db425 30 = .ok (.iload 4, 2) := by decide +kernel
theorem dJ0_init_db425_32 : decode cJ0_init_db425 32 = .ok (.invokestatic 54, 3) := by decide +kernel
theorem dJ0_init_db425_35 : decode cJ0_init_db425 35 = .ok (.putfield 9, 3) := by decide +kernel
theorem dJ0_init_db425_38 : decode cJ0_init_db425 38 = .ok (.goto 59, 3) := by decide +kernel
theorem dJ0_init_db425_41 : decode cJ0_init_db425 41 = .ok (.getstatic 38, 3) := by decide +kernel
theorem dJ0_init_db425_44 : decode cJ0_init_db425 44 = .ok (.ifCond .eq 35, 3) := by decide +kernel
theorem dJ0_init_db425_47 : decode cJ0_init_db425 47 = .ok (.aload_n 1, 1) := by decide +kernel
theorem dJ0_init_db425_48 : decode cJ0_init_db425 48 = .ok (.getfield 1048, 3) := by decide +kernel
theorem dJ0_init_db425_51 : decode cJ0_init_db425 51 = .ok (.ifCond .eq 28, 3) := by decide +kernel
theorem dJ0_init_db425_54 : decode cJ0_init_db425 54 = .ok (.aload_n 0, 1) := by decide +kernel
theorem dJ0_init_db425_55 : decode cJ0_init_db425 55 = .ok (.aload_n 3, 1) := by decide +kernel
theorem dJ0_init_db425_56 : decode cJ0_init_db425 56 = .ok (.iconst 0, 1) := by decide +kernel
theorem dJ0_init_db425_57 : decode cJ0_init_db425 57 = .ok (.iload 4, 2) := by decide +kernel
theorem dJ0_init_db425_59 : decode cJ0_init_db425 59 = .ok (.invokestatic 1051, 3) := by decide +kernel
theorem dJ0_init_db425_62 : decode cJ0_init_db425 62 = .ok (.putfield 9, 3) := by decide +kernel
theorem dJ0_init_db425_65 : decode cJ0_init_db425 65 = .ok (.aload_n 0, 1) := by decide +kernel
theorem dJ0_init_db425_66 : decode cJ0_init_db425 66 = .ok (.aload_n 0, 1) := by decide +kernel
theorem dJ0_init_db425_67 : decode cJ0_init_db425 67 = .ok (.getfield 9, 3) := by decide +kernel
theorem dJ0_init_db425_70 : decode cJ0_init_db425 70 = .ok (.iload 4, 2) := by decide +kernel
theorem dJ0_init_db425_72 : decode cJ0_init_db425 72 = .ok (.invokestatic 47, 3) := by decide +kernel
theorem dJ0_init_db425_75 : decode cJ0_init_db425 75 = .ok (.putfield 15, 3) := by decide +kernel
theorem dJ0_init_db425_78 : decode cJ0_init_db425 78 = .ok (.return_, 1) := by decide +kernel
theorem dJ0_init_db425_79 : decode cJ0_init_db425 79 = .ok (.aload_n 0, 1) := by decide +kernel
theorem dJ0_init_db425_80 : decode cJ0_init_db425 80 = .ok (.iconst 1, 1) := by decide +kernel
theorem dJ0_init_db425_81 : decode cJ0_init_db425 81 = .ok (.putfield 15, 3) := by decide +kernel
theorem dJ0_init_db425_84 : decode cJ0_init_db425 84 = .ok (.aload_n 0, 1) := by decide +kernel
theorem dJ0_init_db425_85 : decode cJ0_init_db425 85 = .ok (.aload_n 3, 1) := by decide +kernel
theorem dJ0_init_db425_86 : decode cJ0_init_db425 86 = .ok (.iconst 0, 1) := by decide +kernel
theorem dJ0_init_db425_87 : decode cJ0_init_db425 87 = .ok (.iload 4, 2) := by decide +kernel
theorem dJ0_init_db425_89 : decode cJ0_init_db425 89 = .ok (.iconst 1, 1) := by decide +kernel
theorem dJ0_init_db425_90 : decode cJ0_init_db425 90 = .ok (.ishl, 1) := by decide +kernel
theorem dJ0_init_db425_91 : decode cJ0_init_db425 91 = .ok (.invokestatic 54, 3) := by decide +kernel
theorem dJ0_init_db425_94 : decode cJ0_init_db425 94 = .ok (.putfield 9, 3) := by decide +kernel
theorem dJ0_init_db425_97 : decode cJ0_init_db425 97 = .ok (.return_, 1) := by decide +kernel
theorem dJ0_init_81219_0 : decode cJ0_init_81219 0 = .ok (.aload_n 0, 1) := by decide +kernel
theorem dJ0_init_81219_1 : decode cJ0_init_81219 1 = .ok (.aload_n 1, 1) := by decide +kernel
theorem dJ0_init_81219_2 : decode cJ0_init_81219 2 = .ok (.aconst_null, 1) := by decide +kernel
theorem dJ0_init_81219_3 : decode cJ0_init_81219 3 = .ok (.invokespecial 489, 3) := by decide +kernel
theorem dJ0_init_81219_6 : decode cJ0_init_81219 6 = .ok (.return_, 1) := by decide +kernel
theorem dJ4_toString_0e30d_0 : decode cJ4_toString_0e30d 0 = .ok (.new 18, 3) := by decide +kernel
theorem dJ4_toString_0e30d_3 : decode cJ4_toString_0e30d 3 = .ok (.dup, 1) := by decide +kernel
theorem dJ4_toString_0e30d_4 : decode cJ4_toString_0e30d 4 = .ok (.aload_n 0, 1) := by decide +kernel
theorem dJ4_toString_0e30d_5 : decode cJ4_toString_0e30d 5 = .ok (.invokespecial 137, 3) := by decide +kernel
theorem dJ4_toString_0e30d_8 : decode cJ4_toString_0e30d 8 = .ok (.areturn, 1) := by decide +kernel
theorem dX3_wordText_0 : decode cX3_wordText 0 = .ok (.new 160, 3) := by decide +kernel
theorem dX3_wordText_3 : decode cX3_wordText 3 = .ok (.dup, 1) := by decide +kernel
theorem dX3_wordText_4 : decode cX3_wordText 4 = .ok (.invokespecial 162, 3) := by decide +kernel
theorem dX3_wordText_7 : decode cX3_wordText 7 = .ok (.astore_n 1, 1) := by decide +kernel
theorem dX3_wordText_8 : decode cX3_wordText 8 = .ok (.aload_n 0, 1) := by decide +kernel
theorem dX3_wordText_9 : decode cX3_wordText 9 = .ok (.getfield 100, 3) := by decide +kernel
theorem dX3_wordText_12 : decode cX3_wordText 12 = .ok (.istore_n 2, 1) := by decide +kernel
theorem dX3_wordText_13 : decode cX3_wordText 13 = .ok (.iload_n 2, 1) := by decide +kernel
theorem dX3_wordText_14 : decode cX3_wordText 14 = .ok (.aload_n 0, 1) := by decide +kernel
theorem dX3_wordText_15 : decode cX3_wordText 15 = .ok (.getfield 103, 3) := by decide +kernel
theorem dX3_wordText_18 : decode cX3_wordText 18 = .ok (.if_icmp .ge 24, 3) := by decide +kernel
theorem dX3_wordText_21 : decode cX3_wordText 21 = .ok (.aload_n 1, 1) := by decide +kernel
theorem dX3_wordText_22 : decode cX3_wordText 22 = .ok (.aload_n 0, 1) := by decide +kernel
theorem dX3_wordText_23 : decode cX3_wordText 23 = .ok (.getfield 9, 3) := by decide +kernel
theorem dX3_wordText_26 : decode cX3_wordText 26 = .ok (.getfield 163, 3) := by decide +kernel
theorem dX3_wordText_29 : decode cX3_wordText 29 = .ok (.iload_n 2, 1) := by decide +kernel
theorem dX3_wordText_30 : decode cX3_wordText 30 = .ok (.baload, 1) := by decide +kernel
theorem dX3_wordText_31 : decode cX3_wordText 31 = .ok (.i2c, 1) := by decide +kernel
theorem dX3_wordText_32 : decode cX3_wordText 32 = .ok (.invokevirtual 167, 3) := by decide +kernel
theorem dX3_wordText_35 : decode cX3_wordText 35 = .ok (.pop, 1) := by decide +kernel
theorem dX3_wordText_36 : decode cX3_wordText 36 = .ok (.iinc 2 1, 3) := by decide +kernel
theorem dX3_wordText_39 : decode cX3_wordText 39 = .ok (.goto (-26), 3) := by decide +kernel
theorem dX3_wordText_42 : decode cX3_wordText 42 = .ok (.aload_n 1, 1) := by decide +kernel
theorem dX3_wordText_43 : decode cX3_wordText 43 = .ok (.invokevirtual 171, 3) := by decide +kernel
theorem dX3_wordText_46 : decode cX3_wordText 46 = .ok (.areturn, 1) := by decide +kernel
theorem dJ7_fill_53178_0 : decode cJ7_fill_53178 0 = .ok (.iconst 0, 1) := by decide +kernel
theorem dJ7_fill_53178_1 : decode cJ7_fill_53178 1 = .ok (.istore_n 2, 1) := by decide +kernel
theorem dJ7_fill_53178_2 : decode cJ7_fill_53178 2 = .ok (.aload_n 0, 1) := by decide +kernel
theorem dJ7_fill_53178_3 : decode cJ7_fill_53178 3 = .ok (.arraylength, 1) := by decide +kernel
theorem dJ7_fill_53178_4 : decode cJ7_fill_53178 4 = .ok (.istore_n 3, 1) := by decide +kernel
theorem dJ7_fill_53178_5 : decode cJ7_fill_53178 5 = .ok (.iload_n 2, 1) := by decide +kernel
theorem dJ7_fill_53178_6 : decode cJ7_fill_53178 6 = .ok (.iload_n 3, 1) := by decide +kernel
theorem dJ7_fill_53178_7 : decode cJ7_fill_53178 7 = .ok (.if_icmp .ge 13, 3) := by decide +kernel
theorem dJ7_fill_53178_10 : decode cJ7_fill_53178 10 = .ok (.aload_n 0, 1) := by decide +kernel
theorem dJ7_fill_53178_11 : decode cJ7_fill_53178 11 = .ok (.iload_n 2, 1) := by decide +kernel
theorem dJ7_fill_53178_12 : decode cJ7_fill_53178 12 = .ok (.iload_n 1, 1) := by decide +kernel
theorem dJ7_fill_53178_13 : decode cJ7_fill_53178 13 = .ok (.iastore, 1) := by decide +kernel
theorem dJ7_fill_53178_14 : decode cJ7_fill_53178 14 = .ok (.iinc 2 1, 3) := by decide +kernel
theorem dJ7_fill_53178_17 : decode cJ7_fill_53178 17 = .ok (.goto (-12), 3) := by decide +kernel
theorem dJ7_fill_53178_20 : decode cJ7_fill_53178 20 = .ok (.return_, 1) := by decide +kernel
theorem dX7_begin_0 : decode cX7_begin 0 = .ok (.aload_n 0, 1) := by decide +kernel
theorem dX7_begin_1 : decode cX7_begin 1 = .ok (.aload_n 1, 1) := by decide +kernel
theorem dX7_begin_2 : decode cX7_begin 2 = .ok (.putfield 30, 3) := by decide +kernel
theorem dX7_begin_5 : decode cX7_begin 5 = .ok (.aload_n 0, 1) := by decide +kernel
theorem dX7_begin_6 : decode cX7_begin 6 = .ok (.iconst 0, 1) := by decide +kernel
theorem dX7_begin_7 : decode cX7_begin 7 = .ok (.putfield 34, 3) := by decide +kernel
theorem dX7_begin_10 : decode cX7_begin 10 = .ok (.aload_n 0, 1) := by decide +kernel
theorem dX7_begin_11 : decode cX7_begin 11 = .ok (.iconst 0, 1) := by decide +kernel
theorem dX7_begin_12 : decode cX7_begin 12 = .ok (.putfield 38, 3) := by decide +kernel
theorem dX7_begin_15 : decode cX7_begin 15 = .ok (.aload_n 0, 1) := by decide +kernel
theorem dX7_begin_16 : decode cX7_begin 16 = .ok (.getfield 9, 3) := by decide +kernel
theorem dX7_begin_19 : decode cX7_begin 19 = .ok (.iconst 0, 1) := by decide +kernel
theorem dX7_begin_20 : decode cX7_begin 20 = .ok (.invokestatic 41, 3) := by decide +kernel
theorem dX7_begin_23 : decode cX7_begin 23 = .ok (.aload_n 0, 1) := by decide +kernel
theorem dX7_begin_24 : decode cX7_begin 24 = .ok (.getfield 15, 3) := by decide +kernel
theorem dX7_begin_27 : decode cX7_begin 27 = .ok (.iconst 0, 1) := by decide +kernel
theorem dX7_begin_28 : decode cX7_begin 28 = .ok (.invokestatic 41, 3) := by decide +kernel
theorem dX7_begin_31 : decode cX7_begin 31 = .ok (.aload_n 0, 1) := by decide +kernel
theorem dX7_begin_32 : decode cX7_begin 32 = .ok (.getfield 24, 3) := by decide +kernel
theorem dX7_begin_35 : decode cX7_begin 35 = .ok (.invokevirtual 47, 3) := by decide +kernel
theorem dX7_begin_38 : decode cX7_begin 38 = .ok (.return_, 1) := by decide +kernel
theorem dX5_beginSet_0 : decode cX5_beginSet 0 = .ok (.aload_n 0, 1) := by decide +kernel
theorem dX5_beginSet_1 : decode cX5_beginSet 1 = .ok (.getfield 36, 3) := by decide +kernel
theorem dX5_beginSet_4 : decode cX5_beginSet 4 = .ok (.iconst 5, 1) := by decide +kernel
theorem dX5_beginSet_5 : decode cX5_beginSet 5 = .ok (.if_icmp .ge 26, 3) := by decide +kernel
theorem dX5_beginSet_8 : decode cX5_beginSet 8 = .ok (.aload_n 0, 1) := by decide +kernel
theorem dX5_beginSet_9 : decode cX5_beginSet 9 = .ok (.getfield 11, 3) := by decide +kernel
theorem dX5_beginSet_12 : decode cX5_beginSet 12 = .ok (.aload_n 0, 1) := by decide +kernel
theorem dX5_beginSet_13 : decode cX5_beginSet 13 = .ok (.getfield 36, 3) := by decide +kernel
theorem dX5_beginSet_16 : decode cX5_beginSet 16 = .ok (.aaload, 1) := by decide +kernel
theorem dX5_beginSet_17 : decode cX5_beginSet 17 = .ok (.aload_n 1, 1) := by decide +kernel
theorem dX5_beginSet_18 : decode cX5_beginSet 18 = .ok (.invokevirtual 55, 3) := by decide +kernel
theorem dX5_beginSet_21 : decode cX5_beginSet 21 = .ok (.aload_n 0, 1) := by decide +kernel
theorem dX5_beginSet_22 : decode cX5_beginSet 22 = .ok (.dup, 1) := by decide +kernel
theorem dX5_beginSet_23 : decode cX5_beginSet 23 = .ok (.getfield 36, 3) := by decide +kernel
theorem dX5_beginSet_26 : decode cX5_beginSet 26 = .ok (.iconst 1, 1) := by decide +kernel
theorem dX5_beginSet_27 : decode cX5_beginSet 27 = .ok (.iadd, 1) := by decide +kernel
theorem dX5_beginSet_28 : decode cX5_beginSet 28 = .ok (.putfield 36, 3) := by decide +kernel
theorem dX5_beginSet_31 : decode cX5_beginSet 31 = .ok (.return_, 1) := by decide +kernel
theorem dX3_readSet_0 : decode cX3_readSet 0 = .ok (.aload_n 0, 1) := by decide +kernel
theorem dX3_readSet_1 : decode cX3_readSet 1 = .ok (.getfield 19, 3) := by decide +kernel
theorem dX3_readSet_4 : decode cX3_readSet 4 = .ok (.getfield 94, 3) := by decide +kernel
theorem dX3_readSet_7 : decode cX3_readSet 7 = .ok (.iconst 5, 1) := by decide +kernel
theorem dX3_readSet_8 : decode cX3_readSet 8 = .ok (.if_icmp .lt 9, 3) := by decide +kernel
theorem dX3_readSet_11 : decode cX3_readSet 11 = .ok (.aload_n 0, 1) := by decide +kernel
theorem dX3_readSet_12 : decode cX3_readSet 12 = .ok (.iconst 5, 1) := by decide +kernel
theorem dX3_readSet_13 : decode cX3_readSet 13 = .ok (.invokevirtual 90, 3) := by decide +kernel
theorem dX3_readSet_16 : decode cX3_readSet 16 = .ok (.ireturn, 1) := by decide +kernel
theorem dX3_readSet_17 : decode cX3_readSet 17 = .ok (.aload_n 0, 1) := by decide +kernel
theorem dX3_readSet_18 : decode cX3_readSet 18 = .ok (.invokevirtual 35, 3) := by decide +kernel
theorem dX3_readSet_21 : decode cX3_readSet 21 = .ok (.aload_n 0, 1) := by decide +kernel
theorem dX3_readSet_22 : decode cX3_readSet 22 = .ok (.getfield 29, 3) := by decide +kernel
theorem dX3_readSet_25 : decode cX3_readSet 25 = .ok (.getstatic 97, 3) := by decide +kernel
theorem dX3_readSet_28 : decode cX3_readSet 28 = .ok (.if_acmp .eq 9, 3) := by decide +kernel
theorem dX3_readSet_31 : decode cX3_readSet 31 = .ok (.aload_n 0, 1) := by decide +kernel
theorem dX3_readSet_32 : decode cX3_readSet 32 = .ok (.iconst 1, 1) := by decide +kernel
theorem dX3_readSet_33 : decode cX3_readSet 33 = .ok (.invokevirtual 90, 3) := by decide +kernel
theorem dX3_readSet_36 : decode cX3_readSet 36 = .ok (.ireturn, 1) := by decide +kernel
theorem dX3_readSet_37 : decode cX3_readSet 37 = .ok (.aload_n 0, 1) := by decide +kernel
theorem dX3_readSet_38 : decode cX3_readSet 38 = .ok (.getfield 19, 3) := by decide +kernel
theorem dX3_readSet_41 : decode cX3_readSet 41 = .ok (.aload_n 0, 1) := by decide +kernel
theorem dX3_readSet_42 : decode cX3_readSet 42 = .ok (.getfield 9, 3) := by decide +kernel
theorem dX3_readSet_45 : decode cX3_readSet 45 = .ok (.aload_n 0, 1) := by decide +kernel
theorem dX3_readSet_46 : decode cX3_readSet 46 = .ok (.getfield 100, 3) := by decide +kernel
theorem dX3_readSet_49 : decode cX3_readSet 49 = .ok (.aload_n 0, 1) := by decide +kernel
theorem dX3_readSet_50 : decode cX3_readSet 50 = .ok (.getfield 103, 3) := by decide +kernel
theorem dX3_readSet_53 : decode cX3_readSet 53 = .ok (.invokevirtual 106, 3) := by decide +kernel
theorem dX3_readSet_56 : decode cX3_readSet 56 = .ok (.iconst (-1), 1) := by decide +kernel
theorem dX3_readSet_57 : decode cX3_readSet 57 = .ok (.if_icmp .eq 9, 3) := by decide +kernel
theorem dX3_readSet_60 : decode cX3_readSet 60 = .ok (.aload_n 0, 1) := by decide +kernel
theorem dX3_readSet_61 : decode cX3_readSet 61 = .ok (.iconst 2, 1) := by decide +kernel
theorem dX3_readSet_62 : decode cX3_readSet 62 = .ok (.invokevirtual 90, 3) := by decide +kernel
theorem dX3_readSet_65 : decode cX3_readSet 65 = .ok (.ireturn, 1) := by decide +kernel
theorem dX3_readSet_66 : decode cX3_readSet 66 = .ok (.aload_n 0, 1) := by decide +kernel
theorem dX3_readSet_67 : decode cX3_readSet 67 = .ok (.getfield 19, 3) := by decide +kernel
theorem dX3_readSet_70 : decode cX3_readSet 70 = .ok (.aload_n 0, 1) := by decide +kernel
theorem dX3_readSet_71 : decode cX3_readSet 71 = .ok (.invokevirtual 110, 3) := by decide +kernel
theorem dX3_readSet_74 : decode cX3_readSet 74 = .ok (.invokevirtual 114, 3) := by decide +kernel
theorem dX3_readSet_77 : decode cX3_readSet 77 = .ok (.aload_n 0, 1) := by decide +kernel
theorem dX3_readSet_78 : decode cX3_readSet 78 = .ok (.invokevirtual 35, 3) := by decide +kernel
theorem dX3_readSet_81 : decode cX3_readSet 81 = .ok (.iconst 1, 1) := by decide +kernel
theorem dX3_readSet_82 : decode cX3_readSet 82 = .ok (.ireturn, 1) := by decide +kernel
theorem dX3_readEarlierSet_0 : decode cX3_readEarlierSet 0 = .ok (.aload_n 0, 1) := by decide +kernel
theorem dX3_readEarlierSet_1 : decode cX3_readEarlierSet 1 = .ok (.getfield 29, 3) := by decide +kernel
theorem dX3_readEarlierSet_4 : decode cX3_readEarlierSet 4 = .ok (.getstatic 97, 3) := by decide +kernel
theorem dX3_readEarlierSet_7 : decode cX3_readEarlierSet 7 = .ok (.if_acmp .eq 11, 3) := by decide +kernel
theorem dX3_readEarlierSet_10 : decode cX3_readEarlierSet 10 = .ok (.aload_n 0, 1) := by decide +kernel
theorem dX3_readEarlierSet_11 : decode cX3_readEarlierSet 11 = .ok (.iconst 1, 1) := by decide +kernel
theorem dX3_readEarlierSet_12 : decode cX3_readEarlierSet 12 = .ok (.invokevirtual 90, 3) := by decide +kernel
theorem dX3_readEarlierSet_15 : decode cX3_readEarlierSet 15 = .ok (.pop, 1) := by decide +kernel
theorem dX3_readEarlierSet_16 : decode cX3_readEarlierSet 16 = .ok (.iconst (-1), 1) := by decide +kernel
theorem dX3_readEarlierSet_17 : decode cX3_readEarlierSet 17 = .ok (.ireturn, 1) := by decide +kernel
theorem dX3_readEarlierSet_18 : decode cX3_readEarlierSet 18 = .ok (.aload_n 0, 1) := by decide +kernel
theorem dX3_readEarlierSet_19 : decode cX3_readEarlierSet 19 = .ok (.getfield 19, 3) := by decide +kernel
theorem dX3_readEarlierSet_22 : decode cX3_readEarlierSet 22 = .ok (.aload_n 0, 1) := by decide +kernel
theorem dX3_readEarlierSet_23 : decode cX3_readEarlierSet 23 = .ok (.getfield 9, 3) := by decide +kernel
theorem dX3_readEarlierSet_26 : decode cX3_readEarlierSet 26 = .ok (.aload_n 0, 1) := by decide +kernel
theorem dX3_readEarlierSet_27 : decode cX3_readEarlierSet 27 = .ok (.getfield 100, 3) := by decide +kernel
theorem dX3_readEarlierSet_30 : decode cX3_readEarlierSet 30 = .ok (.aload_n 0, 1) := by decide +kernel
theorem dX3_readEarlierSet_31 : decode cX3_readEarlierSet 31 = .ok (.getfield 103, 3) := by decide +kernel
theorem dX3_readEarlierSet_34 : decode cX3_readEarlierSet 34 = .ok (.invokevirtual 106, 3) := by decide +kernel
theorem dX3_readEarlierSet_37 : decode cX3_readEarlierSet 37 = .ok (.istore_n 1, 1) := by decide +kernel
theorem dX3_readEarlierSet_38 : decode cX3_readEarlierSet 38 = .ok (.iload_n 1, 1) := by decide +kernel
theorem dX3_readEarlierSet_39 : decode cX3_readEarlierSet 39 = .ok (.iconst (-1), 1) := by decide +kernel
theorem dX3_readEarlierSet_40 : decode cX3_readEarlierSet 40 = .ok (.if_icmp .ne 9, 3) := by decide +kernel
theorem dX3_readEarlierSet_43 : decode cX3_readEarlierSet 43 = .ok (.aload_n 0, 1) := by decide +kernel
theorem dX3_readEarlierSet_44 : decode cX3_readEarlierSet 44 = .ok (.iconst 4, 1) := by decide +kernel
theorem dX3_readEarlierSet_45 : decode cX3_readEarlierSet 45 = .ok (.invokevirtual 90, 3) := by decide +kernel
theorem dX3_readEarlierSet_48 : decode cX3_readEarlierSet 48 = .ok (.pop, 1) := by decide +kernel
theorem dX3_readEarlierSet_49 : decode cX3_readEarlierSet 49 = .ok (.iload_n 1, 1) := by decide +kernel
theorem dX3_readEarlierSet_50 : decode cX3_readEarlierSet 50 = .ok (.ireturn, 1) := by decide +kernel
theorem dX7_placeOf_0 : decode cX7_placeOf 0 = .ok (.iload_n 1, 1) := by decide +kernel
theorem dX7_placeOf_1 : decode cX7_placeOf 1 = .ok (.ifCond .lt 9, 3) := by decide +kernel
theorem dX7_placeOf_4 : decode cX7_placeOf 4 = .ok (.iload_n 1, 1) := by decide +kernel
theorem dX7_placeOf_5 : decode cX7_placeOf 5 = .ok (.bipush 64, 2) := by decide +kernel
theorem dX7_placeOf_7 : decode cX7_placeOf 7 = .ok (.if_icmp .lt 5, 3) := by decide +kernel
theorem dX7_placeOf_10 : decode cX7_placeOf 10 = .ok (.iconst (-1), 1) := by decide +kernel
theorem dX7_placeOf_11 : decode cX7_placeOf 11 = .ok (.ireturn, 1) := by decide +kernel
theorem dX7_placeOf_12 : decode cX7_placeOf 12 = .ok (.aload_n 0, 1) := by decide +kernel
theorem dX7_placeOf_13 : decode cX7_placeOf 13 = .ok (.getfield 15, 3) := by decide +kernel
theorem dX7_placeOf_16 : decode cX7_placeOf 16 = .ok (.iload_n 1, 1) := by decide +kernel
theorem dX7_placeOf_17 : decode cX7_placeOf 17 = .ok (.iaload, 1) := by decide +kernel
theorem dX7_placeOf_18 : decode cX7_placeOf 18 = .ok (.istore_n 2, 1) := by decide +kernel
theorem dX7_placeOf_19 : decode cX7_placeOf 19 = .ok (.iload_n 2, 1) := by decide +kernel
theorem dX7_placeOf_20 : decode cX7_placeOf 20 = .ok (.aload_n 0, 1) := by decide +kernel
theorem dX7_placeOf_21 : decode cX7_placeOf 21 = .ok (.getfield 34, 3) := by decide +kernel
theorem dX7_placeOf_24 : decode cX7_placeOf 24 = .ok (.if_icmp .ge 17, 3) := by decide +kernel
theorem dX7_placeOf_27 : decode cX7_placeOf 27 = .ok (.aload_n 0, 1) := by decide +kernel
theorem dX7_placeOf_28 : decode cX7_placeOf 28 = .ok (.getfield 9, 3) := by decide +kernel
theorem dX7_placeOf_31 : decode cX7_placeOf 31 = .ok (.iload_n 2, 1) := by decide +kernel
theorem dX7_placeOf_32 : decode cX7_placeOf 32 = .ok (.iaload, 1) := by decide +kernel
theorem dX7_placeOf_33 : decode cX7_placeOf 33 = .ok (.iload_n 1, 1) := by decide +kernel
theorem dX7_placeOf_34 : decode cX7_placeOf 34 = .ok (.if_icmp .ne 7, 3) := by decide +kernel
theorem dX7_placeOf_37 : decode cX7_placeOf 37 = .ok (.iload_n 2, 1) := by decide +kernel
theorem dX7_placeOf_38 : decode cX7_placeOf 38 = .ok (.goto 4, 3) := by decide +kernel
theorem dX7_placeOf_41 : decode cX7_placeOf 41 = .ok (.iconst (-1), 1) := by decide +kernel
theorem dX7_placeOf_42 : decode cX7_placeOf 42 = .ok (.ireturn, 1) := by decide +kernel
theorem dX7_has_0 : decode cX7_has 0 = .ok (.aload_n 0, 1) := by decide +kernel
theorem dX7_has_1 : decode cX7_has 1 = .ok (.iload_n 1, 1) := by decide +kernel
theorem dX7_has_2 : decode cX7_has 2 = .ok (.invokevirtual 60, 3) := by decide +kernel
theorem dX7_has_5 : decode cX7_has 5 = .ok (.iconst (-1), 1) := by decide +kernel
theorem dX7_has_6 : decode cX7_has 6 = .ok (.if_icmp .eq 7, 3) := by decide +kernel
theorem dX7_has_9 : decode cX7_has 9 = .ok (.iconst 1, 1) := by decide +kernel
theorem dX7_has_10 : decode cX7_has 10 = .ok (.goto 4, 3) := by decide +kernel
theorem dX7_has_13 : decode cX7_has 13 = .ok (.iconst 0, 1) := by decide +kernel
theorem dX7_has_14 : decode cX7_has 14 = .ok (.ireturn, 1) := by decide +kernel
theorem dX5_writeMember_0 : decode cX5_writeMember 0 = .ok (.aload_n 1, 1) := by decide +kernel
theorem dX5_writeMember_1 : decode cX5_writeMember 1 = .ok (.getfield 123, 3) := by decide +kernel
theorem dX5_writeMember_4 : decode cX5_writeMember 4 = .ok (.iload_n 2, 1) := by decide +kernel
theorem dX5_writeMember_5 : decode cX5_writeMember 5 = .ok (.iload_n 3, 1) := by decide +kernel
theorem dX5_writeMember_6 : decode cX5_writeMember 6 = .ok (.iastore, 1) := by decide +kernel
theorem dX5_writeMember_7 : decode cX5_writeMember 7 = .ok (.aload_n 1, 1) := by decide +kernel
theorem dX5_writeMember_8 : decode cX5_writeMember 8 = .ok (.getfield 126, 3) := by decide +kernel
theorem dX5_writeMember_11 : decode cX5_writeMember 11 = .ok (.iload_n 3, 1) := by decide +kernel
theorem dX5_writeMember_12 : decode cX5_writeMember 12 = .ok (.iload_n 2, 1) := by decide +kernel
theorem dX5_writeMember_13 : decode cX5_writeMember 13 = .ok (.iastore, 1) := by decide +kernel
theorem dX5_writeMember_14 : decode cX5_writeMember 14 = .ok (.aload_n 0, 1) := by decide +kernel
theorem dX5_writeMember_15 : decode cX5_writeMember 15 = .ok (.dup, 1) := by decide +kernel
theorem dX5_writeMember_16 : decode cX5_writeMember 16 = .ok (.getfield 45, 3) := by decide +kernel
theorem dX5_writeMember_19 : decode cX5_writeMember 19 = .ok (.iconst 2, 1) := by decide +kernel
theorem dX5_writeMember_20 : decode cX5_writeMember 20 = .ok (.iadd, 1) := by decide +kernel
theorem dX5_writeMember_21 : decode cX5_writeMember 21 = .ok (.putfield 45, 3) := by decide +kernel
theorem dX5_writeMember_24 : decode cX5_writeMember 24 = .ok (.return_, 1) := by decide +kernel
theorem dX5_bringIn_0 : decode cX5_bringIn 0 = .ok (.aload_n 1, 1) := by decide +kernel
theorem dX5_bringIn_1 : decode cX5_bringIn 1 = .ok (.iload_n 2, 1) := by decide +kernel
theorem dX5_bringIn_2 : decode cX5_bringIn 2 = .ok (.invokevirtual 82, 3) := by decide +kernel
theorem dX5_bringIn_5 : decode cX5_bringIn 5 = .ok (.ifCond .eq 5, 3) := by decide +kernel
theorem dX5_bringIn_8 : decode cX5_bringIn 8 = .ok (.iconst 0, 1) := by decide +kernel
theorem dX5_bringIn_9 : decode cX5_bringIn 9 = .ok (.ireturn, 1) := by decide +kernel
theorem dX5_bringIn_10 : decode cX5_bringIn 10 = .ok (.aload_n 0, 1) := by decide +kernel
theorem dX5_bringIn_11 : decode cX5_bringIn 11 = .ok (.aload_n 1, 1) := by decide +kernel
theorem dX5_bringIn_12 : decode cX5_bringIn 12 = .ok (.aload_n 1, 1) := by decide +kernel
theorem dX5_bringIn_13 : decode cX5_bringIn 13 = .ok (.getfield 86, 3) := by decide +kernel
theorem dX5_bringIn_16 : decode cX5_bringIn 16 = .ok (.iload_n 2, 1) := by decide +kernel
theorem dX5_bringIn_17 : decode cX5_bringIn 17 = .ok (.invokevirtual 89, 3) := by decide +kernel
theorem dX5_bringIn_20 : decode cX5_bringIn 20 = .ok (.aload_n 1, 1) := by decide +kernel
theorem dX5_bringIn_21 : decode cX5_bringIn 21 = .ok (.dup, 1) := by decide +kernel
theorem dX5_bringIn_22 : decode cX5_bringIn 22 = .ok (.getfield 86, 3) := by decide +kernel
theorem dX5_bringIn_25 : decode cX5_bringIn 25 = .ok (.iconst 1, 1) := by decide +kernel
theorem dX5_bringIn_26 : decode cX5_bringIn 26 = .ok (.iadd, 1) := by decide +kernel
theorem dX5_bringIn_27 : decode cX5_bringIn 27 = .ok (.putfield 86, 3) := by decide +kernel
theorem dX5_bringIn_30 : decode cX5_bringIn 30 = .ok (.aload_n 0, 1) := by decide +kernel
theorem dX5_bringIn_31 : decode cX5_bringIn 31 = .ok (.dup, 1) := by decide +kernel
theorem dX5_bringIn_32 : decode cX5_bringIn 32 = .ok (.getfield 42, 3) := by decide +kernel
theorem dX5_bringIn_35 : decode cX5_bringIn 35 = .ok (.iconst 1, 1) := by decide +kernel
theorem dX5_bringIn_36 : decode cX5_bringIn 36 = .ok (.iadd, 1) := by decide +kernel
theorem dX5_bringIn_37 : decode cX5_bringIn 37 = .ok (.putfield 42, 3) := by decide +kernel
theorem dX5_bringIn_40 : decode cX5_bringIn 40 = .ok (.aload_n 1, 1) := by decide +kernel
theorem dX5_bringIn_41 : decode cX5_bringIn 41 = .ok (.getfield 93, 3) := by decide +kernel
theorem dX5_bringIn_44 : decode cX5_bringIn 44 = .ok (.iload_n 2, 1) := by decide +kernel
theorem dX5_bringIn_45 : decode cX5_bringIn 45 = .ok (.aload_n 0, 1) := by decide +kernel
theorem dX5_bringIn_46 : decode cX5_bringIn 46 = .ok (.getfield 42, 3) := by decide +kernel
theorem dX5_bringIn_49 : decode cX5_bringIn 49 = .ok (.iastore, 1) := by decide +kernel
theorem dX5_bringIn_50 : decode cX5_bringIn 50 = .ok (.aload_n 1, 1) := by decide +kernel
theorem dX5_bringIn_51 : decode cX5_bringIn 51 = .ok (.getfield 96, 3) := by decide +kernel
theorem dX5_bringIn_54 : decode cX5_bringIn 54 = .ok (.aload_n 0, 1) := by decide +kernel
theorem dX5_bringIn_55 : decode cX5_bringIn 55 = .ok (.getfield 42, 3) := by decide +kernel
theorem dX5_bringIn_58 : decode cX5_bringIn 58 = .ok (.iload_n 2, 1) := by decide +kernel
theorem dX5_bringIn_59 : decode cX5_bringIn 59 = .ok (.iconst 0, 1) := by decide +kernel
theorem dX5_bringIn_60 : decode cX5_bringIn 60 = .ok (.aload_n 0, 1) := by decide +kernel
theorem dX5_bringIn_61 : decode cX5_bringIn 61 = .ok (.getfield 33, 3) := by decide +kernel
theorem dX5_bringIn_64 : decode cX5_bringIn 64 = .ok (.invokevirtual 100, 3) := by decide +kernel
theorem dX5_bringIn_67 : decode cX5_bringIn 67 = .ok (.iconst 1, 1) := by decide +kernel
theorem dX5_bringIn_68 : decode cX5_bringIn 68 = .ok (.ireturn, 1) := by decide +kernel
theorem dX5_pullCursorsBack_0 : decode cX5_pullCursorsBack 0 = .ok (.iconst 0, 1) := by decide +kernel
theorem dX5_pullCursorsBack_1 : decode cX5_pullCursorsBack 1 = .ok (.istore_n 3, 1) := by decide +kernel
theorem dX5_pullCursorsBack_2 : decode cX5_pullCursorsBack 2 = .ok (.iconst 0, 1) := by decide +kernel
theorem dX5_pullCursorsBack_3 : decode cX5_pullCursorsBack 3 = .ok (.istore 4, 2) := by decide +kernel
theorem dX5_pullCursorsBack_5 : decode cX5_pullCursorsBack 5 = .ok (.iload 4, 2) := by decide +kernel
theorem dX5_pullCursorsBack_7 : decode cX5_pullCursorsBack 7 = .ok (.bipush 6, 2) := by decide +kernel
theorem dX5_pullCursorsBack_9 : decode cX5_pullCursorsBack 9 = .ok (.if_icmp .ge 52, 3) := by decide +kernel
theorem dX5_pullCursorsBack_12 : decode cX5_pullCursorsBack 12 = .ok (.aload_n 0, 1) := by decide +kernel
theorem dX5_pullCursorsBack_13 : decode cX5_pullCursorsBack 13 = .ok (.getfield 19, 3) := by decide +kernel
theorem dX5_pullCursorsBack_16 : decode cX5_pullCursorsBack 16 = .ok (.iload 4, 2) := by decide +kernel
theorem dX5_pullCursorsBack_18 : decode cX5_pullCursorsBack 18 = .ok (.aaload, 1) := by decide +kernel
theorem dX5_pullCursorsBack_19 : decode cX5_pullCursorsBack 19 = .ok (.iload_n 1, 1) := by decide +kernel
theorem dX5_pullCursorsBack_20 : decode cX5_pullCursorsBack 20 = .ok (.invokevirtual 117, 3) := by decide +kernel
theorem dX5_pullCursorsBack_23 : decode cX5_pullCursorsBack 23 = .ok (.ifCond .eq 32, 3) := by decide +kernel
theorem dX5_pullCursorsBack_26 : decode cX5_pullCursorsBack 26 = .ok (.aload_n 0, 1) := by decide +kernel
theorem dX5_pullCursorsBack_27 : decode cX5_pullCursorsBack 27 = .ok (.getfield 19, 3) := by decide +kernel
theorem dX5_pullCursorsBack_30 : decode cX5_pullCursorsBack 30 = .ok (.iload 4, 2) := by decide +kernel
theorem dX5_pullCursorsBack_32 : decode cX5_pullCursorsBack 32 = .ok (.aaload, 1) := by decide +kernel
theorem dX5_pullCursorsBack_33 : decode cX5_pullCursorsBack 33 = .ok (.getfield 120, 3) := by decide +kernel
theorem dX5_pullCursorsBack_36 : decode cX5_pullCursorsBack 36 = .ok (.iload_n 2, 1) := by decide +kernel
theorem dX5_pullCursorsBack_37 : decode cX5_pullCursorsBack 37 = .ok (.if_icmp .ne 18, 3) := by decide +kernel
theorem dX5_pullCursorsBack_40 : decode cX5_pullCursorsBack 40 = .ok (.aload_n 0, 1) := by decide +kernel
theorem dX5_pullCursorsBack_41 : decode cX5_pullCursorsBack 41 = .ok (.getfield 19, 3) := by decide +kernel
theorem dX5_pullCursorsBack_44 : decode cX5_pullCursorsBack 44 = .ok (.iload 4, 2) := by decide +kernel
theorem dX5_pullCursorsBack_46 : decode cX5_pullCursorsBack 46 = .ok (.aaload, 1) := by decide +kernel
theorem dX5_pullCursorsBack_47 : decode cX5_pullCursorsBack 47 = .ok (.iload_n 2, 1) := by decide +kernel
theorem dX5_pullCursorsBack_48 : decode cX5_pullCursorsBack 48 = .ok (.iconst 1, 1) := by decide +kernel
theorem dX5_pullCursorsBack_49 : decode cX5_pullCursorsBack 49 = .ok (.isub, 1) := by decide +kernel
theorem dX5_pullCursorsBack_50 : decode cX5_pullCursorsBack 50 = .ok (.putfield 120, 3) := by decide +kernel
theorem dX5_pullCursorsBack_53 : decode cX5_pullCursorsBack 53 = .ok (.iconst 1, 1) := by decide +kernel
theorem dX5_pullCursorsBack_54 : decode cX5_pullCursorsBack 54 = .ok (.istore_n 3, 1) := by decide +kernel
theorem dX5_pullCursorsBack_55 : decode cX5_pullCursorsBack 55 = .ok (.iinc 4 1, 3) := by decide +kernel
theorem dX5_pullCursorsBack_58 : decode cX5_pullCursorsBack 58 = .ok (.goto (-53), 3) := by decide +kernel
theorem dX5_pullCursorsBack_61 : decode cX5_pullCursorsBack 61 = .ok (.iload_n 3, 1) := by decide +kernel
theorem dX5_pullCursorsBack_62 : decode cX5_pullCursorsBack 62 = .ok (.ireturn, 1) := by decide +kernel
theorem dX5_moveMember_0 : decode cX5_moveMember 0 = .ok (.iload_n 2, 1) := by decide +kernel
theorem dX5_moveMember_1 : decode cX5_moveMember 1 = .ok (.iload_n 3, 1) := by decide +kernel
theorem dX5_moveMember_2 : decode cX5_moveMember 2 = .ok (.if_icmp .eq 15, 3) := by decide +kernel
theorem dX5_moveMember_5 : decode cX5_moveMember 5 = .ok (.aload_n 0, 1) := by decide +kernel
theorem dX5_moveMember_6 : decode cX5_moveMember 6 = .ok (.aload_n 1, 1) := by decide +kernel
theorem dX5_moveMember_7 : decode cX5_moveMember 7 = .ok (.iload_n 3, 1) := by decide +kernel
theorem dX5_moveMember_8 : decode cX5_moveMember 8 = .ok (.aload_n 1, 1) := by decide +kernel
theorem dX5_moveMember_9 : decode cX5_moveMember 9 = .ok (.getfield 123, 3) := by decide +kernel
theorem dX5_moveMember_12 : decode cX5_moveMember 12 = .ok (.iload_n 2, 1) := by decide +kernel
theorem dX5_moveMember_13 : decode cX5_moveMember 13 = .ok (.iaload, 1) := by decide +kernel
theorem dX5_moveMember_14 : decode cX5_moveMember 14 = .ok (.invokevirtual 89, 3) := by decide +kernel
theorem dX5_moveMember_17 : decode cX5_moveMember 17 = .ok (.return_, 1) := by decide +kernel
theorem dX5_takeOut_0 : decode cX5_takeOut 0 = .ok (.aload_n 0, 1) := by decide +kernel
theorem dX5_takeOut_1 : decode cX5_takeOut 1 = .ok (.getfield 11, 3) := by decide +kernel
theorem dX5_takeOut_4 : decode cX5_takeOut 4 = .ok (.iload_n 1, 1) := by decide +kernel
theorem dX5_takeOut_5 : decode cX5_takeOut 5 = .ok (.aaload, 1) := by decide +kernel
theorem dX5_takeOut_6 : decode cX5_takeOut 6 = .ok (.astore_n 3, 1) := by decide +kernel
theorem dX5_takeOut_7 : decode cX5_takeOut 7 = .ok (.aload_n 3, 1) := by decide +kernel
theorem dX5_takeOut_8 : decode cX5_takeOut 8 = .ok (.iload_n 2, 1) := by decide +kernel
theorem dX5_takeOut_9 : decode cX5_takeOut 9 = .ok (.invokevirtual 106, 3) := by decide +kernel
theorem dX5_takeOut_12 : decode cX5_takeOut 12 = .ok (.istore 4, 2) := by decide +kernel
theorem dX5_takeOut_14 : decode cX5_takeOut 14 = .ok (.iload 4, 2) := by decide +kernel
theorem dX5_takeOut_16 : decode cX5_takeOut 16 = .ok (.iconst (-1), 1) := by decide +kernel
theorem dX5_takeOut_17 : decode cX5_takeOut 17 = .ok (.if_icmp .ne 5, 3) := by decide +kernel
theorem dX5_takeOut_20 : decode cX5_takeOut 20 = .ok (.iconst 0, 1) := by decide +kernel
theorem dX5_takeOut_21 : decode cX5_takeOut 21 = .ok (.ireturn, 1) := by decide +kernel
theorem dX5_takeOut_22 : decode cX5_takeOut 22 = .ok (.iload 4, 2) := by decide +kernel
theorem dX5_takeOut_24 : decode cX5_takeOut 24 = .ok (.istore 5, 2) := by decide +kernel
theorem dX5_takeOut_26 : decode cX5_takeOut 26 = .ok (.iload 4, 2) := by decide +kernel
theorem dX5_takeOut_28 : decode cX5_takeOut 28 = .ok (.iconst 1, 1) := by decide +kernel
theorem dX5_takeOut_29 : decode cX5_takeOut 29 = .ok (.iadd, 1) := by decide +kernel
theorem dX5_takeOut_30 : decode cX5_takeOut 30 = .ok (.istore 6, 2) := by decide +kernel
theorem dX5_takeOut_32 : decode cX5_takeOut 32 = .ok (.iload 6, 2) := by decide +kernel
theorem dX5_takeOut_34 : decode cX5_takeOut 34 = .ok (.aload_n 3, 1) := by decide +kernel
theorem dX5_takeOut_35 : decode cX5_takeOut 35 = .ok (.getfield 86, 3) := by decide +kernel
theorem dX5_takeOut_38 : decode cX5_takeOut 38 = .ok (.if_icmp .gt 45, 3) := by decide +kernel
theorem dX5_takeOut_41 : decode cX5_takeOut 41 = .ok (.aload_n 0, 1) := by decide +kernel
theorem dX5_takeOut_42 : decode cX5_takeOut 42 = .ok (.iload_n 1, 1) := by decide +kernel
theorem dX5_takeOut_43 : decode cX5_takeOut 43 = .ok (.iload 6, 2) := by decide +kernel
theorem dX5_takeOut_45 : decode cX5_takeOut 45 = .ok (.invokevirtual 110, 3) := by decide +kernel
theorem dX5_takeOut_48 : decode cX5_takeOut 48 = .ok (.ifCond .ne 12, 3) := by decide +kernel
theorem dX5_takeOut_51 : decode cX5_takeOut 51 = .ok (.iload 6, 2) := by decide +kernel
theorem dX5_takeOut_53 : decode cX5_takeOut 53 = .ok (.aload_n 3, 1) := by decide +kernel
theorem dX5_takeOut_54 : decode cX5_takeOut 54 = .ok (.getfield 86, 3) := by decide +kernel
theorem dX5_takeOut_57 : decode cX5_takeOut 57 = .ok (.if_icmp .ne 20, 3) := by decide +kernel
theorem dX5_takeOut_60 : decode cX5_takeOut 60 = .ok (.aload_n 0, 1) := by decide +kernel
theorem dX5_takeOut_61 : decode cX5_takeOut 61 = .ok (.aload_n 3, 1) := by decide +kernel
theorem dX5_takeOut_62 : decode cX5_takeOut 62 = .ok (.iload 6, 2) := by decide +kernel
theorem dX5_takeOut_64 : decode cX5_takeOut 64 = .ok (.iconst 1, 1) := by decide +kernel
theorem dX5_takeOut_65 : decode cX5_takeOut 65 = .ok (.isub, 1) := by decide +kernel
theorem dX5_takeOut_66 : decode cX5_takeOut 66 = .ok (.iload 5, 2) := by decide +kernel
theorem dX5_takeOut_68 : decode cX5_takeOut 68 = .ok (.invokevirtual 114, 3) := by decide +kernel
theorem dX5_takeOut_71 : decode cX5_takeOut 71 = .ok (.iload 6, 2) := by decide +kernel
theorem dX5_takeOut_73 : decode cX5_takeOut 73 = .ok (.iconst 1, 1) := by decide +kernel
theorem dX5_takeOut_74 : decode cX5_takeOut 74 = .ok (.isub, 1) := by decide +kernel
theorem dX5_takeOut_75 : decode cX5_takeOut 75 = .ok (.istore 5, 2) := by decide +kernel
theorem dX5_takeOut_77 : decode cX5_takeOut 77 = .ok (.iinc 6 1, 3) := by decide +kernel
theorem dX5_takeOut_80 : decode cX5_takeOut 80 = .ok (.goto (-48), 3) := by decide +kernel
theorem dX5_takeOut_83 : decode cX5_takeOut 83 = .ok (.aload_n 3, 1) := by decide +kernel
theorem dX5_takeOut_84 : decode cX5_takeOut 84 = .ok (.dup, 1) := by decide +kernel
theorem dX5_takeOut_85 : decode cX5_takeOut 85 = .ok (.getfield 86, 3) := by decide +kernel
theorem dX5_takeOut_88 : decode cX5_takeOut 88 = .ok (.iconst 1, 1) := by decide +kernel
theorem dX5_takeOut_89 : decode cX5_takeOut 89 = .ok (.isub, 1) := by decide +kernel
theorem dX5_takeOut_90 : decode cX5_takeOut 90 = .ok (.putfield 86, 3) := by decide +kernel
theorem dX5_takeOut_93 : decode cX5_takeOut 93 = .ok (.aload_n 0, 1) := by decide +kernel
theorem dX5_takeOut_94 : decode cX5_takeOut 94 = .ok (.dup, 1) := by decide +kernel
theorem dX5_takeOut_95 : decode cX5_takeOut 95 = .ok (.getfield 42, 3) := by decide +kernel
theorem dX5_takeOut_98 : decode cX5_takeOut 98 = .ok (.iconst 1, 1) := by decide +kernel
theorem dX5_takeOut_99 : decode cX5_takeOut 99 = .ok (.iadd, 1) := by decide +kernel
theorem dX5_takeOut_100 : decode cX5_takeOut 100 = .ok (.putfield 42, 3) := by decide +kernel
theorem dX5_takeOut_103 : decode cX5_takeOut 103 = .ok (.aload_n 3, 1) := by decide +kernel
theorem dX5_takeOut_104 : decode cX5_takeOut 104 = .ok (.getfield 96, 3) := by decide +kernel
theorem dX5_takeOut_107 : decode cX5_takeOut 107 = .ok (.aload_n 0, 1) := by decide +kernel
theorem dX5_takeOut_108 : decode cX5_takeOut 108 = .ok (.getfield 42, 3) := by decide +kernel
theorem dX5_takeOut_111 : decode cX5_takeOut 111 = .ok (.iload_n 2, 1) := by decide +kernel
theorem dX5_takeOut_112 : decode cX5_takeOut 112 = .ok (.iconst 1, 1) := by decide +kernel
theorem dX5_takeOut_113 : decode cX5_takeOut 113 = .ok (.aload_n 0, 1) := by decide +kernel
theorem dX5_takeOut_114 : decode cX5_takeOut 114 = .ok (.getfield 33, 3) := by decide +kernel
theorem dX5_takeOut_117 : decode cX5_takeOut 117 = .ok (.invokevirtual 100, 3) := by decide +kernel
theorem dX5_takeOut_120 : decode cX5_takeOut 120 = .ok (.iconst 1, 1) := by decide +kernel
theorem dX5_takeOut_121 : decode cX5_takeOut 121 = .ok (.ireturn, 1) := by decide +kernel
theorem dX3_readMembers_0 : decode cX3_readMembers 0 = .ok (.aload_n 0, 1) := by decide +kernel
theorem dX3_readMembers_1 : decode cX3_readMembers 1 = .ok (.invokevirtual 35, 3) := by decide +kernel
theorem dX3_readMembers_4 : decode cX3_readMembers 4 = .ok (.aload_n 0, 1) := by decide +kernel
theorem dX3_readMembers_5 : decode cX3_readMembers 5 = .ok (.invokevirtual 118, 3) := by decide +kernel
theorem dX3_readMembers_8 : decode cX3_readMembers 8 = .ok (.istore_n 2, 1) := by decide +kernel
theorem dX3_readMembers_9 : decode cX3_readMembers 9 = .ok (.iload_n 2, 1) := by decide +kernel
theorem dX3_readMembers_10 : decode cX3_readMembers 10 = .ok (.iconst (-1), 1) := by decide +kernel
theorem dX3_readMembers_11 : decode cX3_readMembers 11 = .ok (.if_icmp .ne 5, 3) := by decide +kernel
theorem dX3_readMembers_14 : decode cX3_readMembers 14 = .ok (.iconst 0, 1) := by decide +kernel
theorem dX3_readMembers_15 : decode cX3_readMembers 15 = .ok (.ireturn, 1) := by decide +kernel
theorem dX3_readMembers_16 : decode cX3_readMembers 16 = .ok (.aload_n 0, 1) := by decide +kernel
theorem dX3_readMembers_17 : decode cX3_readMembers 17 = .ok (.invokevirtual 35, 3) := by decide +kernel
theorem dX3_readMembers_20 : decode cX3_readMembers 20 = .ok (.iconst 0, 1) := by decide +kernel
theorem dX3_readMembers_21 : decode cX3_readMembers 21 = .ok (.istore_n 3, 1) := by decide +kernel
theorem dX3_readMembers_22 : decode cX3_readMembers 22 = .ok (.iload_n 3, 1) := by decide +kernel
theorem dX3_readMembers_23 : decode cX3_readMembers 23 = .ok (.ifCond .eq 21, 3) := by decide +kernel
theorem dX3_readMembers_26 : decode cX3_readMembers 26 = .ok (.iload_n 3, 1) := by decide +kernel
theorem dX3_readMembers_27 : decode cX3_readMembers 27 = .ok (.aload_n 0, 1) := by decide +kernel
theorem dX3_readMembers_28 : decode cX3_readMembers 28 = .ok (.getfield 15, 3) := by decide +kernel
theorem dX3_readMembers_31 : decode cX3_readMembers 31 = .ok (.if_icmp .ge 83, 3) := by decide +kernel
theorem dX3_readMembers_34 : decode cX3_readMembers 34 = .ok (.aload_n 0, 1) := by decide +kernel
theorem dX3_readMembers_35 : decode cX3_readMembers 35 = .ok (.getfield 29, 3) := by decide +kernel
theorem dX3_readMembers_38 : decode cX3_readMembers 38 = .ok (.getstatic 122, 3) := by decide +kernel
theorem dX3_readMembers_41 : decode cX3_readMembers 41 = .ok (.if_acmp .ne 73, 3) := by decide +kernel
theorem dX3_readMembers_44 : decode cX3_readMembers 44 = .ok (.aload_n 0, 1) := by decide +kernel
theorem dX3_readMembers_45 : decode cX3_readMembers 45 = .ok (.iconst 0, 1) := by decide +kernel
theorem dX3_readMembers_46 : decode cX3_readMembers 46 = .ok (.aload_n 0, 1) := by decide +kernel
theorem dX3_readMembers_47 : decode cX3_readMembers 47 = .ok (.getfield 19, 3) := by decide +kernel
theorem dX3_readMembers_50 : decode cX3_readMembers 50 = .ok (.getfield 125, 3) := by decide +kernel
theorem dX3_readMembers_53 : decode cX3_readMembers 53 = .ok (.iconst 1, 1) := by decide +kernel
theorem dX3_readMembers_54 : decode cX3_readMembers 54 = .ok (.isub, 1) := by decide +kernel
theorem dX3_readMembers_55 : decode cX3_readMembers 55 = .ok (.invokevirtual 44, 3) := by decide +kernel
theorem dX3_readMembers_58 : decode cX3_readMembers 58 = .ok (.ifCond .ne 5, 3) := by decide +kernel
theorem dX3_readMembers_61 : decode cX3_readMembers 61 = .ok (.iconst 0, 1) := by decide +kernel
theorem dX3_readMembers_62 : decode cX3_readMembers 62 = .ok (.ireturn, 1) := by decide +kernel
theorem dX3_readMembers_63 : decode cX3_readMembers 63 = .ok (.iload_n 1, 1) := by decide +kernel
theorem dX3_readMembers_64 : decode cX3_readMembers 64 = .ok (.ifCond .eq 27, 3) := by decide +kernel
theorem dX3_readMembers_67 : decode cX3_readMembers 67 = .ok (.aload_n 0, 1) := by decide +kernel
theorem dX3_readMembers_68 : decode cX3_readMembers 68 = .ok (.getfield 19, 3) := by decide +kernel
theorem dX3_readMembers_71 : decode cX3_readMembers 71 = .ok (.aload_n 0, 1) := by decide +kernel
theorem dX3_readMembers_72 : decode cX3_readMembers 72 = .ok (.getfield 19, 3) := by decide +kernel
theorem dX3_readMembers_75 : decode cX3_readMembers 75 = .ok (.getfield 128, 3) := by decide +kernel
theorem dX3_readMembers_78 : decode cX3_readMembers 78 = .ok (.iload_n 2, 1) := by decide +kernel
theorem dX3_readMembers_79 : decode cX3_readMembers 79 = .ok (.aaload, 1) := by decide +kernel
theorem dX3_readMembers_80 : decode cX3_readMembers 80 = .ok (.aload_n 0, 1) := by decide +kernel
theorem dX3_readMembers_81 : decode cX3_readMembers 81 = .ok (.getfield 48, 3) := by decide +kernel
theorem dX3_readMembers_84 : decode cX3_readMembers 84 = .ok (.invokevirtual 131, 3) := by decide +kernel
theorem dX3_readMembers_87 : decode cX3_readMembers 87 = .ok (.pop, 1) := by decide +kernel
theorem dX3_readMembers_88 : decode cX3_readMembers 88 = .ok (.goto 16, 3) := by decide +kernel
theorem dX3_readMembers_91 : decode cX3_readMembers 91 = .ok (.aload_n 0, 1) := by decide +kernel
theorem dX3_readMembers_92 : decode cX3_readMembers 92 = .ok (.getfield 19, 3) := by decide +kernel
theorem dX3_readMembers_95 : decode cX3_readMembers 95 = .ok (.iload_n 2, 1) := by decide +kernel
theorem dX3_readMembers_96 : decode cX3_readMembers 96 = .ok (.aload_n 0, 1) := by decide +kernel
theorem dX3_readMembers_97 : decode cX3_readMembers 97 = .ok (.getfield 48, 3) := by decide +kernel
theorem dX3_readMembers_100 : decode cX3_readMembers 100 = .ok (.invokevirtual 135, 3) := by decide +kernel
theorem dX3_readMembers_103 : decode cX3_readMembers 103 = .ok (.pop, 1) := by decide +kernel
theorem dX3_readMembers_104 : decode cX3_readMembers 104 = .ok (.aload_n 0, 1) := by decide +kernel
theorem dX3_readMembers_105 : decode cX3_readMembers 105 = .ok (.invokevirtual 35, 3) := by decide +kernel
theorem dX3_readMembers_108 : decode cX3_readMembers 108 = .ok (.iinc 3 1, 3) := by decide +kernel
theorem dX3_readMembers_111 : decode cX3_readMembers 111 = .ok (.goto (-89), 3) := by decide +kernel
theorem dX3_readMembers_114 : decode cX3_readMembers 114 = .ok (.iconst 1, 1) := by decide +kernel
theorem dX3_readMembers_115 : decode cX3_readMembers 115 = .ok (.ireturn, 1) := by decide +kernel
theorem dX5_emptySet_0 : decode cX5_emptySet 0 = .ok (.aload_n 0, 1) := by decide +kernel
theorem dX5_emptySet_1 : decode cX5_emptySet 1 = .ok (.getfield 11, 3) := by decide +kernel
theorem dX5_emptySet_4 : decode cX5_emptySet 4 = .ok (.iload_n 1, 1) := by decide +kernel
theorem dX5_emptySet_5 : decode cX5_emptySet 5 = .ok (.aaload, 1) := by decide +kernel
theorem dX5_emptySet_6 : decode cX5_emptySet 6 = .ok (.astore_n 2, 1) := by decide +kernel
theorem dX5_emptySet_7 : decode cX5_emptySet 7 = .ok (.aload_n 2, 1) := by decide +kernel
theorem dX5_emptySet_8 : decode cX5_emptySet 8 = .ok (.getfield 86, 3) := by decide +kernel
theorem dX5_emptySet_11 : decode cX5_emptySet 11 = .ok (.ifCond .le 30, 3) := by decide +kernel
theorem dX5_emptySet_14 : decode cX5_emptySet 14 = .ok (.aload_n 0, 1) := by decide +kernel
theorem dX5_emptySet_15 : decode cX5_emptySet 15 = .ok (.dup, 1) := by decide +kernel
theorem dX5_emptySet_16 : decode cX5_emptySet 16 = .ok (.getfield 42, 3) := by decide +kernel
theorem dX5_emptySet_19 : decode cX5_emptySet 19 = .ok (.iconst 1, 1) := by decide +kernel
theorem dX5_emptySet_20 : decode cX5_emptySet 20 = .ok (.iadd, 1) := by decide +kernel
theorem dX5_emptySet_21 : decode cX5_emptySet 21 = .ok (.putfield 42, 3) := by decide +kernel
theorem dX5_emptySet_24 : decode cX5_emptySet 24 = .ok (.aload_n 2, 1) := by decide +kernel
theorem dX5_emptySet_25 : decode cX5_emptySet 25 = .ok (.getfield 96, 3) := by decide +kernel
theorem dX5_emptySet_28 : decode cX5_emptySet 28 = .ok (.aload_n 0, 1) := by decide +kernel
theorem dX5_emptySet_29 : decode cX5_emptySet 29 = .ok (.getfield 42, 3) := by decide +kernel
theorem dX5_emptySet_32 : decode cX5_emptySet 32 = .ok (.iconst (-1), 1) := by decide +kernel
theorem dX5_emptySet_33 : decode cX5_emptySet 33 = .ok (.iconst 2, 1) := by decide +kernel
theorem dX5_emptySet_34 : decode cX5_emptySet 34 = .ok (.aload_n 0, 1) := by decide +kernel
theorem dX5_emptySet_35 : decode cX5_emptySet 35 = .ok (.getfield 33, 3) := by decide +kernel
theorem dX5_emptySet_38 : decode cX5_emptySet 38 = .ok (.invokevirtual 100, 3) := by decide +kernel
theorem dX5_emptySet_41 : decode cX5_emptySet 41 = .ok (.aload_n 2, 1) := by decide +kernel
theorem dX5_emptySet_42 : decode cX5_emptySet 42 = .ok (.iconst 0, 1) := by decide +kernel
theorem dX5_emptySet_43 : decode cX5_emptySet 43 = .ok (.putfield 86, 3) := by decide +kernel
theorem dX5_emptySet_46 : decode cX5_emptySet 46 = .ok (.aload_n 2, 1) := by decide +kernel
theorem dX5_emptySet_47 : decode cX5_emptySet 47 = .ok (.dup, 1) := by decide +kernel
theorem dX5_emptySet_48 : decode cX5_emptySet 48 = .ok (.getfield 129, 3) := by decide +kernel
theorem dX5_emptySet_51 : decode cX5_emptySet 51 = .ok (.iconst 1, 1) := by decide +kernel
theorem dX5_emptySet_52 : decode cX5_emptySet 52 = .ok (.iadd, 1) := by decide +kernel
theorem dX5_emptySet_53 : decode cX5_emptySet 53 = .ok (.putfield 129, 3) := by decide +kernel
theorem dX5_emptySet_56 : decode cX5_emptySet 56 = .ok (.aload_n 0, 1) := by decide +kernel
theorem dX5_emptySet_57 : decode cX5_emptySet 57 = .ok (.dup, 1) := by decide +kernel
theorem dX5_emptySet_58 : decode cX5_emptySet 58 = .ok (.getfield 45, 3) := by decide +kernel
theorem dX5_emptySet_61 : decode cX5_emptySet 61 = .ok (.iconst 1, 1) := by decide +kernel
theorem dX5_emptySet_62 : decode cX5_emptySet 62 = .ok (.iadd, 1) := by decide +kernel
theorem dX5_emptySet_63 : decode cX5_emptySet 63 = .ok (.putfield 45, 3) := by decide +kernel
theorem dX5_emptySet_66 : decode cX5_emptySet 66 = .ok (.iconst 0, 1) := by decide +kernel
theorem dX5_emptySet_67 : decode cX5_emptySet 67 = .ok (.istore_n 3, 1) := by decide +kernel
theorem dX5_emptySet_68 : decode cX5_emptySet 68 = .ok (.iload_n 3, 1) := by decide +kernel
theorem dX5_emptySet_69 : decode cX5_emptySet 69 = .ok (.bipush 6, 2) := by decide +kernel
theorem dX5_emptySet_71 : decode cX5_emptySet 71 = .ok (.if_icmp .ge 32, 3) := by decide +kernel
theorem dX5_emptySet_74 : decode cX5_emptySet 74 = .ok (.aload_n 0, 1) := by decide +kernel
theorem dX5_emptySet_75 : decode cX5_emptySet 75 = .ok (.getfield 19, 3) := by decide +kernel
theorem dX5_emptySet_78 : decode cX5_emptySet 78 = .ok (.iload_n 3, 1) := by decide +kernel
theorem dX5_emptySet_79 : decode cX5_emptySet 79 = .ok (.aaload, 1) := by decide +kernel
theorem dX5_emptySet_80 : decode cX5_emptySet 80 = .ok (.iload_n 1, 1) := by decide +kernel
theorem dX5_emptySet_81 : decode cX5_emptySet 81 = .ok (.invokevirtual 117, 3) := by decide +kernel
theorem dX5_emptySet_84 : decode cX5_emptySet 84 = .ok (.ifCond .eq 13, 3) := by decide +kernel
theorem dX5_emptySet_87 : decode cX5_emptySet 87 = .ok (.aload_n 0, 1) := by decide +kernel
theorem dX5_emptySet_88 : decode cX5_emptySet 88 = .ok (.getfield 19, 3) := by decide +kernel
theorem dX5_emptySet_91 : decode cX5_emptySet 91 = .ok (.iload_n 3, 1) := by decide +kernel
theorem dX5_emptySet_92 : decode cX5_emptySet 92 = .ok (.aaload, 1) := by decide +kernel
theorem dX5_emptySet_93 : decode cX5_emptySet 93 = .ok (.iconst 0, 1) := by decide +kernel
theorem dX5_emptySet_94 : decode cX5_emptySet 94 = .ok (.putfield 52, 3) := by decide +kernel
theorem dX5_emptySet_97 : decode cX5_emptySet 97 = .ok (.iinc 3 1, 3) := by decide +kernel
theorem dX5_emptySet_100 : decode cX5_emptySet 100 = .ok (.goto (-32), 3) := by decide +kernel
theorem dX5_emptySet_103 : decode cX5_emptySet 103 = .ok (.return_, 1) := by decide +kernel
theorem dX3_readClear_0 : decode cX3_readClear 0 = .ok (.aload_n 0, 1) := by decide +kernel
theorem dX3_readClear_1 : decode cX3_readClear 1 = .ok (.invokevirtual 35, 3) := by decide +kernel
theorem dX3_readClear_4 : decode cX3_readClear 4 = .ok (.aload_n 0, 1) := by decide +kernel
theorem dX3_readClear_5 : decode cX3_readClear 5 = .ok (.invokevirtual 118, 3) := by decide +kernel
theorem dX3_readClear_8 : decode cX3_readClear 8 = .ok (.istore_n 1, 1) := by decide +kernel
theorem dX3_readClear_9 : decode cX3_readClear 9 = .ok (.iload_n 1, 1) := by decide +kernel
theorem dX3_readClear_10 : decode cX3_readClear 10 = .ok (.iconst (-1), 1) := by decide +kernel
theorem dX3_readClear_11 : decode cX3_readClear 11 = .ok (.if_icmp .ne 5, 3) := by decide +kernel
theorem dX3_readClear_14 : decode cX3_readClear 14 = .ok (.iconst 0, 1) := by decide +kernel
theorem dX3_readClear_15 : decode cX3_readClear 15 = .ok (.ireturn, 1) := by decide +kernel
theorem dX3_readClear_16 : decode cX3_readClear 16 = .ok (.aload_n 0, 1) := by decide +kernel
theorem dX3_readClear_17 : decode cX3_readClear 17 = .ok (.getfield 19, 3) := by decide +kernel
theorem dX3_readClear_20 : decode cX3_readClear 20 = .ok (.iload_n 1, 1) := by decide +kernel
theorem dX3_readClear_21 : decode cX3_readClear 21 = .ok (.invokevirtual 138, 3) := by decide +kernel
theorem dX3_readClear_24 : decode cX3_readClear 24 = .ok (.aload_n 0, 1) := by decide +kernel
theorem dX3_readClear_25 : decode cX3_readClear 25 = .ok (.invokevirtual 35, 3) := by decide +kernel
theorem dX3_readClear_28 : decode cX3_readClear 28 = .ok (.iconst 1, 1) := by decide +kernel
theorem dX3_readClear_29 : decode cX3_readClear 29 = .ok (.ireturn, 1) := by decide +kernel
theorem dX5_makeMark_0 : decode cX5_makeMark 0 = .ok (.aload_n 0, 1) := by decide +kernel
theorem dX5_makeMark_1 : decode cX5_makeMark 1 = .ok (.getfield 39, 3) := by decide +kernel
theorem dX5_makeMark_4 : decode cX5_makeMark 4 = .ok (.bipush 8, 2) := by decide +kernel
theorem dX5_makeMark_6 : decode cX5_makeMark 6 = .ok (.if_icmp .ge 26, 3) := by decide +kernel
theorem dX5_makeMark_9 : decode cX5_makeMark 9 = .ok (.aload_n 0, 1) := by decide +kernel
theorem dX5_makeMark_10 : decode cX5_makeMark 10 = .ok (.getfield 23, 3) := by decide +kernel
theorem dX5_makeMark_13 : decode cX5_makeMark 13 = .ok (.aload_n 0, 1) := by decide +kernel
theorem dX5_makeMark_14 : decode cX5_makeMark 14 = .ok (.getfield 39, 3) := by decide +kernel
theorem dX5_makeMark_17 : decode cX5_makeMark 17 = .ok (.aload_n 0, 1) := by decide +kernel
theorem dX5_makeMark_18 : decode cX5_makeMark 18 = .ok (.getfield 42, 3) := by decide +kernel
theorem dX5_makeMark_21 : decode cX5_makeMark 21 = .ok (.iastore, 1) := by decide +kernel
theorem dX5_makeMark_22 : decode cX5_makeMark 22 = .ok (.aload_n 0, 1) := by decide +kernel
theorem dX5_makeMark_23 : decode cX5_makeMark 23 = .ok (.dup, 1) := by decide +kernel
theorem dX5_makeMark_24 : decode cX5_makeMark 24 = .ok (.getfield 39, 3) := by decide +kernel
theorem dX5_makeMark_27 : decode cX5_makeMark 27 = .ok (.iconst 1, 1) := by decide +kernel
theorem dX5_makeMark_28 : decode cX5_makeMark 28 = .ok (.iadd, 1) := by decide +kernel
theorem dX5_makeMark_29 : decode cX5_makeMark 29 = .ok (.putfield 39, 3) := by decide +kernel
theorem dX5_makeMark_32 : decode cX5_makeMark 32 = .ok (.return_, 1) := by decide +kernel
theorem dX3_readMark_0 : decode cX3_readMark 0 = .ok (.aload_n 0, 1) := by decide +kernel
theorem dX3_readMark_1 : decode cX3_readMark 1 = .ok (.getfield 19, 3) := by decide +kernel
theorem dX3_readMark_4 : decode cX3_readMark 4 = .ok (.getfield 142, 3) := by decide +kernel
theorem dX3_readMark_7 : decode cX3_readMark 7 = .ok (.bipush 8, 2) := by decide +kernel
theorem dX3_readMark_9 : decode cX3_readMark 9 = .ok (.if_icmp .lt 9, 3) := by decide +kernel
theorem dX3_readMark_12 : decode cX3_readMark 12 = .ok (.aload_n 0, 1) := by decide +kernel
theorem dX3_readMark_13 : decode cX3_readMark 13 = .ok (.iconst 5, 1) := by decide +kernel
theorem dX3_readMark_14 : decode cX3_readMark 14 = .ok (.invokevirtual 90, 3) := by decide +kernel
theorem dX3_readMark_17 : decode cX3_readMark 17 = .ok (.ireturn, 1) := by decide +kernel
theorem dX3_readMark_18 : decode cX3_readMark 18 = .ok (.aload_n 0, 1) := by decide +kernel
theorem dX3_readMark_19 : decode cX3_readMark 19 = .ok (.getfield 19, 3) := by decide +kernel
theorem dX3_readMark_22 : decode cX3_readMark 22 = .ok (.invokevirtual 145, 3) := by decide +kernel
theorem dX3_readMark_25 : decode cX3_readMark 25 = .ok (.aload_n 0, 1) := by decide +kernel
theorem dX3_readMark_26 : decode cX3_readMark 26 = .ok (.invokevirtual 35, 3) := by decide +kernel
theorem dX3_readMark_29 : decode cX3_readMark 29 = .ok (.iconst 1, 1) := by decide +kernel
theorem dX3_readMark_30 : decode cX3_readMark 30 = .ok (.ireturn, 1) := by decide +kernel
theorem dX3_readStatement_0 : decode cX3_readStatement 0 = .ok (.aload_n 0, 1) := by decide +kernel
theorem dX3_readStatement_1 : decode cX3_readStatement 1 = .ok (.ldc 64, 2) := by decide +kernel
theorem dX3_readStatement_3 : decode cX3_readStatement 3 = .ok (.invokevirtual 66, 3) := by decide +kernel
theorem dX3_readStatement_6 : decode cX3_readStatement 6 = .ok (.ifCond .eq 8, 3) := by decide +kernel
theorem dX3_readStatement_9 : decode cX3_readStatement 9 = .ok (.aload_n 0, 1) := by decide +kernel
theorem dX3_readStatement_10 : decode cX3_readStatement 10 = .ok (.invokevirtual 69, 3) := by decide +kernel
theorem dX3_readStatement_13 : decode cX3_readStatement 13 = .ok (.ireturn, 1) := by decide +kernel
theorem dX3_readStatement_14 : decode cX3_readStatement 14 = .ok (.aload_n 0, 1) := by decide +kernel
theorem dX3_readStatement_15 : decode cX3_readStatement 15 = .ok (.ldc 72, 2) := by decide +kernel
theorem dX3_readStatement_17 : decode cX3_readStatement 17 = .ok (.invokevirtual 66, 3) := by decide +kernel
theorem dX3_readStatement_20 : decode cX3_readStatement 20 = .ok (.ifCond .eq 9, 3) := by decide +kernel
theorem dX3_readStatement_23 : decode cX3_readStatement 23 = .ok (.aload_n 0, 1) := by decide +kernel
theorem dX3_readStatement_24 : decode cX3_readStatement 24 = .ok (.iconst 1, 1) := by decide +kernel
theorem dX3_readStatement_25 : decode cX3_readStatement 25 = .ok (.invokevirtual 74, 3) := by decide +kernel
theorem dX3_readStatement_28 : decode cX3_readStatement 28 = .ok (.ireturn, 1) := by decide +kernel
theorem dX3_readStatement_29 : decode cX3_readStatement 29 = .ok (.aload_n 0, 1) := by decide +kernel
theorem dX3_readStatement_30 : decode cX3_readStatement 30 = .ok (.ldc 78, 2) := by decide +kernel
theorem dX3_readStatement_32 : decode cX3_readStatement 32 = .ok (.invokevirtual 66, 3) := by decide +kernel
theorem dX3_readStatement_35 : decode cX3_readStatement 35 = .ok (.ifCond .eq 9, 3) := by decide +kernel
theorem dX3_readStatement_38 : decode cX3_readStatement 38 = .ok (.aload_n 0, 1) := by decide +kernel
theorem dX3_readStatement_39 : decode cX3_readStatement 39 = .ok (.iconst 0, 1) := by decide +kernel
theorem dX3_readStatement_40 : decode cX3_readStatement 40 = .ok (.invokevirtual 74, 3) := by decide +kernel
theorem dX3_readStatement_43 : decode cX3_readStatement 43 = .ok (.ireturn, 1) := by decide +kernel
theorem dX3_readStatement_44 : decode cX3_readStatement 44 = .ok (.aload_n 0, 1) := by decide +kernel
theorem dX3_readStatement_45 : decode cX3_readStatement 45 = .ok (.ldc 80, 2) := by decide +kernel
theorem dX3_readStatement_47 : decode cX3_readStatement 47 = .ok (.invokevirtual 66, 3) := by decide +kernel
theorem dX3_readStatement_50 : decode cX3_readStatement 50 = .ok (.ifCond .eq 8, 3) := by decide +kernel
theorem dX3_readStatement_53 : decode cX3_readStatement 53 = .ok (.aload_n 0, 1) := by decide +kernel
theorem dX3_readStatement_54 : decode cX3_readStatement 54 = .ok (.invokevirtual 82, 3) := by decide +kernel
theorem dX3_readStatement_57 : decode cX3_readStatement 57 = .ok (.ireturn, 1) := by decide +kernel
theorem dX3_readStatement_58 : decode cX3_readStatement 58 = .ok (.aload_n 0, 1) := by decide +kernel
theorem dX3_readStatement_59 : decode cX3_readStatement 59 = .ok (.ldc 85, 2) := by decide +kernel
theorem dX3_readStatement_61 : decode cX3_readStatement 61 = .ok (.invokevirtual 66, 3) := by decide +kernel
theorem dX3_readStatement_64 : decode cX3_readStatement 64 = .ok (.ifCond .eq 8, 3) := by decide +kernel
theorem dX3_readStatement_67 : decode cX3_readStatement 67 = .ok (.aload_n 0, 1) := by decide +kernel
theorem dX3_readStatement_68 : decode cX3_readStatement 68 = .ok (.invokevirtual 87, 3) := by decide +kernel
theorem dX3_readStatement_71 : decode cX3_readStatement 71 = .ok (.ireturn, 1) := by decide +kernel
theorem dX3_readStatement_72 : decode cX3_readStatement 72 = .ok (.aload_n 0, 1) := by decide +kernel
theorem dX3_readStatement_73 : decode cX3_readStatement 73 = .ok (.iconst 1, 1) := by decide +kernel
theorem dX3_readStatement_74 : decode cX3_readStatement 74 = .ok (.invokevirtual 90, 3) := by decide +kernel
theorem dX3_readStatement_77 : decode cX3_readStatement 77 = .ok (.ireturn, 1) := by decide +kernel
theorem dX3_readText_0 : decode cX3_readText 0 = .ok (.aload_n 0, 1) := by decide +kernel
theorem dX3_readText_1 : decode cX3_readText 1 = .ok (.invokevirtual 35, 3) := by decide +kernel
theorem dX3_readText_4 : decode cX3_readText 4 = .ok (.aload_n 0, 1) := by decide +kernel
theorem dX3_readText_5 : decode cX3_readText 5 = .ok (.ldc 38, 2) := by decide +kernel
theorem dX3_readText_7 : decode cX3_readText 7 = .ok (.invokevirtual 40, 3) := by decide +kernel
theorem dX3_readText_10 : decode cX3_readText 10 = .ok (.ifCond .eq 13, 3) := by decide +kernel
theorem dX3_readText_13 : decode cX3_readText 13 = .ok (.aload_n 0, 1) := by decide +kernel
theorem dX3_readText_14 : decode cX3_readText 14 = .ok (.iconst 1, 1) := by decide +kernel
theorem dX3_readText_15 : decode cX3_readText 15 = .ok (.bipush 64, 2) := by decide +kernel
theorem dX3_readText_17 : decode cX3_readText 17 = .ok (.invokevirtual 44, 3) := by decide +kernel
theorem dX3_readText_20 : decode cX3_readText 20 = .ok (.ifCond .ne 5, 3) := by decide +kernel
theorem dX3_readText_23 : decode cX3_readText 23 = .ok (.iconst 0, 1) := by decide +kernel
theorem dX3_readText_24 : decode cX3_readText 24 = .ok (.ireturn, 1) := by decide +kernel
theorem dX3_readText_25 : decode cX3_readText 25 = .ok (.aload_n 0, 1) := by decide +kernel
theorem dX3_readText_26 : decode cX3_readText 26 = .ok (.getfield 48, 3) := by decide +kernel
theorem dX3_readText_29 : decode cX3_readText 29 = .ok (.istore_n 1, 1) := by decide +kernel
theorem dX3_readText_30 : decode cX3_readText 30 = .ok (.aload_n 0, 1) := by decide +kernel
theorem dX3_readText_31 : decode cX3_readText 31 = .ok (.invokevirtual 35, 3) := by decide +kernel
theorem dX3_readText_34 : decode cX3_readText 34 = .ok (.aload_n 0, 1) := by decide +kernel
theorem dX3_readText_35 : decode cX3_readText 35 = .ok (.iconst 1, 1) := by decide +kernel
theorem dX3_readText_36 : decode cX3_readText 36 = .ok (.bipush 60, 2) := by decide +kernel
theorem dX3_readText_38 : decode cX3_readText 38 = .ok (.invokevirtual 44, 3) := by decide +kernel
theorem dX3_readText_41 : decode cX3_readText 41 = .ok (.ifCond .ne 5, 3) := by decide +kernel
theorem dX3_readText_44 : decode cX3_readText 44 = .ok (.iconst 0, 1) := by decide +kernel
theorem dX3_readText_45 : decode cX3_readText 45 = .ok (.ireturn, 1) := by decide +kernel
theorem dX3_readText_46 : decode cX3_readText 46 = .ok (.aload_n 0, 1) := by decide +kernel
theorem dX3_readText_47 : decode cX3_readText 47 = .ok (.getfield 19, 3) := by decide +kernel
theorem dX3_readText_50 : decode cX3_readText 50 = .ok (.iload_n 1, 1) := by decide +kernel
theorem dX3_readText_51 : decode cX3_readText 51 = .ok (.aload_n 0, 1) := by decide +kernel
theorem dX3_readText_52 : decode cX3_readText 52 = .ok (.getfield 48, 3) := by decide +kernel
theorem dX3_readText_55 : decode cX3_readText 55 = .ok (.invokevirtual 51, 3) := by decide +kernel
theorem dX3_readText_58 : decode cX3_readText 58 = .ok (.aload_n 0, 1) := by decide +kernel
theorem dX3_readText_59 : decode cX3_readText 59 = .ok (.invokevirtual 35, 3) := by decide +kernel
theorem dX3_readText_62 : decode cX3_readText 62 = .ok (.aload_n 0, 1) := by decide +kernel
theorem dX3_readText_63 : decode cX3_readText 63 = .ok (.invokevirtual 57, 3) := by decide +kernel
theorem dX3_readText_66 : decode cX3_readText 66 = .ok (.istore_n 2, 1) := by decide +kernel
theorem dX3_readText_67 : decode cX3_readText 67 = .ok (.iconst 0, 1) := by decide +kernel
theorem dX3_readText_68 : decode cX3_readText 68 = .ok (.istore_n 3, 1) := by decide +kernel
theorem dX3_readText_69 : decode cX3_readText 69 = .ok (.iload_n 3, 1) := by decide +kernel
theorem dX3_readText_70 : decode cX3_readText 70 = .ok (.aload_n 0, 1) := by decide +kernel
theorem dX3_readText_71 : decode cX3_readText 71 = .ok (.getfield 15, 3) := by decide +kernel
theorem dX3_readText_74 : decode cX3_readText 74 = .ok (.if_icmp .ge 43, 3) := by decide +kernel
theorem dX3_readText_77 : decode cX3_readText 77 = .ok (.iload_n 2, 1) := by decide +kernel
theorem dX3_readText_78 : decode cX3_readText 78 = .ok (.ifCond .eq 39, 3) := by decide +kernel
theorem dX3_readText_81 : decode cX3_readText 81 = .ok (.aload_n 0, 1) := by decide +kernel
theorem dX3_readText_82 : decode cX3_readText 82 = .ok (.getfield 29, 3) := by decide +kernel
theorem dX3_readText_85 : decode cX3_readText 85 = .ok (.getstatic 23, 3) := by decide +kernel
theorem dX3_readText_88 : decode cX3_readText 88 = .ok (.if_acmp .eq 29, 3) := by decide +kernel
theorem dX3_readText_91 : decode cX3_readText 91 = .ok (.aload_n 0, 1) := by decide +kernel
theorem dX3_readText_92 : decode cX3_readText 92 = .ok (.invokevirtual 61, 3) := by decide +kernel
theorem dX3_readText_95 : decode cX3_readText 95 = .ok (.ifCond .eq 14, 3) := by decide +kernel
theorem dX3_readText_98 : decode cX3_readText 98 = .ok (.aload_n 0, 1) := by decide +kernel
theorem dX3_readText_99 : decode cX3_readText 99 = .ok (.invokevirtual 57, 3) := by decide +kernel
theorem dX3_readText_102 : decode cX3_readText 102 = .ok (.ifCond .eq 7, 3) := by decide +kernel
theorem dX3_readText_105 : decode cX3_readText 105 = .ok (.iconst 1, 1) := by decide +kernel
theorem dX3_readText_106 : decode cX3_readText 106 = .ok (.goto 4, 3) := by decide +kernel
theorem dX3_readText_109 : decode cX3_readText 109 = .ok (.iconst 0, 1) := by decide +kernel
theorem dX3_readText_110 : decode cX3_readText 110 = .ok (.istore_n 2, 1) := by decide +kernel
theorem dX3_readText_111 : decode cX3_readText 111 = .ok (.iinc 3 1, 3) := by decide +kernel
theorem dX3_readText_114 : decode cX3_readText 114 = .ok (.goto (-45), 3) := by decide +kernel
theorem dX3_readText_117 : decode cX3_readText 117 = .ok (.iload_n 2, 1) := by decide +kernel
theorem dX3_readText_118 : decode cX3_readText 118 = .ok (.ireturn, 1) := by decide +kernel
theorem dX4_init_0 : decode cX4_init 0 = .ok (.aload_n 0, 1) := by decide +kernel
theorem dX4_init_1 : decode cX4_init 1 = .ok (.invokespecial 3, 3) := by decide +kernel
theorem dX4_init_4 : decode cX4_init 4 = .ok (.aload_n 0, 1) := by decide +kernel
theorem dX4_init_5 : decode cX4_init 5 = .ok (.iconst 2, 1) := by decide +kernel
theorem dX4_init_6 : decode cX4_init 6 = .ok (.anewarray 9, 3) := by decide +kernel
theorem dX4_init_9 : decode cX4_init 9 = .ok (.putfield 11, 3) := by decide +kernel
theorem dX4_init_12 : decode cX4_init 12 = .ok (.aload_n 0, 1) := by decide +kernel
theorem dX4_init_13 : decode cX4_init 13 = .ok (.iconst 2, 1) := by decide +kernel
theorem dX4_init_14 : decode cX4_init 14 = .ok (.newarray .boolean, 2) := by decide +kernel
theorem dX4_init_16 : decode cX4_init 16 = .ok (.putfield 17, 3) := by decide +kernel
theorem dX4_init_19 : decode cX4_init 19 = .ok (.return_, 1) := by decide +kernel
theorem dX7_init_0 : decode cX7_init 0 = .ok (.aload_n 0, 1) := by decide +kernel
theorem dX7_init_1 : decode cX7_init 1 = .ok (.invokespecial 3, 3) := by decide +kernel
theorem dX7_init_4 : decode cX7_init 4 = .ok (.aload_n 0, 1) := by decide +kernel
theorem dX7_init_5 : decode cX7_init 5 = .ok (.bipush 64, 2) := by decide +kernel
theorem dX7_init_7 : decode cX7_init 7 = .ok (.newarray .int, 2) := by decide +kernel
theorem dX7_init_9 : decode cX7_init 9 = .ok (.putfield 9, 3) := by decide +kernel
theorem dX7_init_12 : decode cX7_init 12 = .ok (.aload_n 0, 1) := by decide +kernel
theorem dX7_init_13 : decode cX7_init 13 = .ok (.bipush 64, 2) := by decide +kernel
theorem dX7_init_15 : decode cX7_init 15 = .ok (.newarray .int, 2) := by decide +kernel
theorem dX7_init_17 : decode cX7_init 17 = .ok (.putfield 15, 3) := by decide +kernel
theorem dX7_init_20 : decode cX7_init 20 = .ok (.aload_n 0, 1) := by decide +kernel
theorem dX7_init_21 : decode cX7_init 21 = .ok (.bipush 64, 2) := by decide +kernel
theorem dX7_init_23 : decode cX7_init 23 = .ok (.newarray .int, 2) := by decide +kernel
theorem dX7_init_25 : decode cX7_init 25 = .ok (.putfield 18, 3) := by decide +kernel
theorem dX7_init_28 : decode cX7_init 28 = .ok (.aload_n 0, 1) := by decide +kernel
theorem dX7_init_29 : decode cX7_init 29 = .ok (.new 21, 3) := by decide +kernel
theorem dX7_init_32 : decode cX7_init 32 = .ok (.dup, 1) := by decide +kernel
theorem dX7_init_33 : decode cX7_init 33 = .ok (.invokespecial 23, 3) := by decide +kernel
theorem dX7_init_36 : decode cX7_init 36 = .ok (.putfield 24, 3) := by decide +kernel
theorem dX7_init_39 : decode cX7_init 39 = .ok (.aload_n 0, 1) := by decide +kernel
theorem dX7_init_40 : decode cX7_init 40 = .ok (.ldc 28, 2) := by decide +kernel
theorem dX7_init_42 : decode cX7_init 42 = .ok (.putfield 30, 3) := by decide +kernel
theorem dX7_init_45 : decode cX7_init 45 = .ok (.return_, 1) := by decide +kernel
theorem dX5_init_0 : decode cX5_init 0 = .ok (.aload_n 0, 1) := by decide +kernel
theorem dX5_init_1 : decode cX5_init 1 = .ok (.invokespecial 3, 3) := by decide +kernel
theorem dX5_init_4 : decode cX5_init 4 = .ok (.aload_n 0, 1) := by decide +kernel
theorem dX5_init_5 : decode cX5_init 5 = .ok (.iconst 5, 1) := by decide +kernel
theorem dX5_init_6 : decode cX5_init 6 = .ok (.anewarray 9, 3) := by decide +kernel
theorem dX5_init_9 : decode cX5_init 9 = .ok (.putfield 11, 3) := by decide +kernel
theorem dX5_init_12 : decode cX5_init 12 = .ok (.aload_n 0, 1) := by decide +kernel
theorem dX5_init_13 : decode cX5_init 13 = .ok (.bipush 6, 2) := by decide +kernel
theorem dX5_init_15 : decode cX5_init 15 = .ok (.anewarray 17, 3) := by decide +kernel
theorem dX5_init_18 : decode cX5_init 18 = .ok (.putfield 19, 3) := by decide +kernel
theorem dX5_init_21 : decode cX5_init 21 = .ok (.aload_n 0, 1) := by decide +kernel
theorem dX5_init_22 : decode cX5_init 22 = .ok (.bipush 8, 2) := by decide +kernel
theorem dX5_init_24 : decode cX5_init 24 = .ok (.newarray .int, 2) := by decide +kernel
theorem dX5_init_26 : decode cX5_init 26 = .ok (.putfield 23, 3) := by decide +kernel
theorem dX5_init_29 : decode cX5_init 29 = .ok (.iconst 0, 1) := by decide +kernel
theorem dX5_init_30 : decode cX5_init 30 = .ok (.istore_n 1, 1) := by decide +kernel
theorem dX5_init_31 : decode cX5_init 31 = .ok (.iload_n 1, 1) := by decide +kernel
theorem dX5_init_32 : decode cX5_init 32 = .ok (.iconst 5, 1) := by decide +kernel
theorem dX5_init_33 : decode cX5_init 33 = .ok (.if_icmp .ge 22, 3) := by decide +kernel
theorem dX5_init_36 : decode cX5_init 36 = .ok (.aload_n 0, 1) := by decide +kernel
theorem dX5_init_37 : decode cX5_init 37 = .ok (.getfield 11, 3) := by decide +kernel
theorem dX5_init_40 : decode cX5_init 40 = .ok (.iload_n 1, 1) := by decide +kernel
theorem dX5_init_41 : decode cX5_init 41 = .ok (.new 9, 3) := by decide +kernel
theorem dX5_init_44 : decode cX5_init 44 = .ok (.dup, 1) := by decide +kernel
theorem dX5_init_45 : decode cX5_init 45 = .ok (.invokespecial 27, 3) := by decide +kernel
theorem dX5_init_48 : decode cX5_init 48 = .ok (.aastore, 1) := by decide +kernel
theorem dX5_init_49 : decode cX5_init 49 = .ok (.iinc 1 1, 3) := by decide +kernel
theorem dX5_init_52 : decode cX5_init 52 = .ok (.goto (-21), 3) := by decide +kernel
theorem dX5_init_55 : decode cX5_init 55 = .ok (.iconst 0, 1) := by decide +kernel
theorem dX5_init_56 : decode cX5_init 56 = .ok (.istore_n 1, 1) := by decide +kernel
theorem dX5_init_57 : decode cX5_init 57 = .ok (.iload_n 1, 1) := by decide +kernel
theorem dX5_init_58 : decode cX5_init 58 = .ok (.bipush 6, 2) := by decide +kernel
theorem dX5_init_60 : decode cX5_init 60 = .ok (.if_icmp .ge 22, 3) := by decide +kernel
theorem dX5_init_63 : decode cX5_init 63 = .ok (.aload_n 0, 1) := by decide +kernel
theorem dX5_init_64 : decode cX5_init 64 = .ok (.getfield 19, 3) := by decide +kernel
theorem dX5_init_67 : decode cX5_init 67 = .ok (.iload_n 1, 1) := by decide +kernel
theorem dX5_init_68 : decode cX5_init 68 = .ok (.new 17, 3) := by decide +kernel
theorem dX5_init_71 : decode cX5_init 71 = .ok (.dup, 1) := by decide +kernel
theorem dX5_init_72 : decode cX5_init 72 = .ok (.invokespecial 28, 3) := by decide +kernel
theorem dX5_init_75 : decode cX5_init 75 = .ok (.aastore, 1) := by decide +kernel
theorem dX5_init_76 : decode cX5_init 76 = .ok (.iinc 1 1, 3) := by decide +kernel
theorem dX5_init_79 : decode cX5_init 79 = .ok (.goto (-22), 3) := by decide +kernel
theorem dX5_init_82 : decode cX5_init 82 = .ok (.return_, 1) := by decide +kernel
theorem dX7_copyFrom_0 : decode cX7_copyFrom 0 = .ok (.aload_n 0, 1) := by decide +kernel
theorem dX7_copyFrom_1 : decode cX7_copyFrom 1 = .ok (.aload_n 1, 1) := by decide +kernel
theorem dX7_copyFrom_2 : decode cX7_copyFrom 2 = .ok (.getfield 30, 3) := by decide +kernel
theorem dX7_copyFrom_5 : decode cX7_copyFrom 5 = .ok (.putfield 30, 3) := by decide +kernel
theorem dX7_copyFrom_8 : decode cX7_copyFrom 8 = .ok (.aload_n 0, 1) := by decide +kernel
theorem dX7_copyFrom_9 : decode cX7_copyFrom 9 = .ok (.aload_n 1, 1) := by decide +kernel
theorem dX7_copyFrom_10 : decode cX7_copyFrom 10 = .ok (.getfield 34, 3) := by decide +kernel
theorem dX7_copyFrom_13 : decode cX7_copyFrom 13 = .ok (.putfield 34, 3) := by decide +kernel
theorem dX7_copyFrom_16 : decode cX7_copyFrom 16 = .ok (.aload_n 0, 1) := by decide +kernel
theorem dX7_copyFrom_17 : decode cX7_copyFrom 17 = .ok (.aload_n 1, 1) := by decide +kernel
theorem dX7_copyFrom_18 : decode cX7_copyFrom 18 = .ok (.getfield 38, 3) := by decide +kernel
theorem dX7_copyFrom_21 : decode cX7_copyFrom 21 = .ok (.putfield 38, 3) := by decide +kernel
theorem dX7_copyFrom_24 : decode cX7_copyFrom 24 = .ok (.aload_n 1, 1) := by decide +kernel
theorem dX7_copyFrom_25 : decode cX7_copyFrom 25 = .ok (.getfield 9, 3) := by decide +kernel
theorem dX7_copyFrom_28 : decode cX7_copyFrom 28 = .ok (.iconst 0, 1) := by decide +kernel
theorem dX7_copyFrom_29 : decode cX7_copyFrom 29 = .ok (.aload_n 0, 1) := by decide +kernel
theorem dX7_copyFrom_30 : decode cX7_copyFrom 30 = .ok (.getfield 9, 3) := by decide +kernel
theorem dX7_copyFrom_33 : decode cX7_copyFrom 33 = .ok (.iconst 0, 1) := by decide +kernel
theorem dX7_copyFrom_34 : decode cX7_copyFrom 34 = .ok (.bipush 64, 2) := by decide +kernel
theorem dX7_copyFrom_36 : decode cX7_copyFrom 36 = .ok (.invokestatic 50, 3) := by decide +kernel
theorem dX7_copyFrom_39 : decode cX7_copyFrom 39 = .ok (.aload_n 1, 1) := by decide +kernel
theorem dX7_copyFrom_40 : decode cX7_copyFrom 40 = .ok (.getfield 15, 3) := by decide +kernel
theorem dX7_copyFrom_43 : decode cX7_copyFrom 43 = .ok (.iconst 0, 1) := by decide +kernel
theorem dX7_copyFrom_44 : decode cX7_copyFrom 44 = .ok (.aload_n 0, 1) := by decide +kernel
theorem dX7_copyFrom_45 : decode cX7_copyFrom 45 = .ok (.getfield 15, 3) := by decide +kernel
theorem dX7_copyFrom_48 : decode cX7_copyFrom 48 = .ok (.iconst 0, 1) := by decide +kernel
theorem dX7_copyFrom_49 : decode cX7_copyFrom 49 = .ok (.bipush 64, 2) := by decide +kernel
theorem dX7_copyFrom_51 : decode cX7_copyFrom 51 = .ok (.invokestatic 50, 3) := by decide +kernel
theorem dX7_copyFrom_54 : decode cX7_copyFrom 54 = .ok (.aload_n 1, 1) := by decide +kernel
theorem dX7_copyFrom_55 : decode cX7_copyFrom 55 = .ok (.getfield 18, 3) := by decide +kernel
theorem dX7_copyFrom_58 : decode cX7_copyFrom 58 = .ok (.iconst 0, 1) := by decide +kernel
theorem dX7_copyFrom_59 : decode cX7_copyFrom 59 = .ok (.aload_n 0, 1) := by decide +kernel
theorem dX7_copyFrom_60 : decode cX7_copyFrom 60 = .ok (.getfield 18, 3) := by decide +kernel
theorem dX7_copyFrom_63 : decode cX7_copyFrom 63 = .ok (.iconst 0, 1) := by decide +kernel
theorem dX7_copyFrom_64 : decode cX7_copyFrom 64 = .ok (.bipush 64, 2) := by decide +kernel
theorem dX7_copyFrom_66 : decode cX7_copyFrom 66 = .ok (.invokestatic 50, 3) := by decide +kernel
theorem dX7_copyFrom_69 : decode cX7_copyFrom 69 = .ok (.aload_n 0, 1) := by decide +kernel
theorem dX7_copyFrom_70 : decode cX7_copyFrom 70 = .ok (.getfield 24, 3) := by decide +kernel
theorem dX7_copyFrom_73 : decode cX7_copyFrom 73 = .ok (.aload_n 1, 1) := by decide +kernel
theorem dX7_copyFrom_74 : decode cX7_copyFrom 74 = .ok (.getfield 24, 3) := by decide +kernel
theorem dX7_copyFrom_77 : decode cX7_copyFrom 77 = .ok (.invokevirtual 56, 3) := by decide +kernel
theorem dX7_copyFrom_80 : decode cX7_copyFrom 80 = .ok (.return_, 1) := by decide +kernel
theorem dX5_copyFrom_0 : decode cX5_copyFrom 0 = .ok (.aload_n 0, 1) := by decide +kernel
theorem dX5_copyFrom_1 : decode cX5_copyFrom 1 = .ok (.aload_n 1, 1) := by decide +kernel
theorem dX5_copyFrom_2 : decode cX5_copyFrom 2 = .ok (.getfield 29, 3) := by decide +kernel
theorem dX5_copyFrom_5 : decode cX5_copyFrom 5 = .ok (.putfield 29, 3) := by decide +kernel
theorem dX5_copyFrom_8 : decode cX5_copyFrom 8 = .ok (.aload_n 0, 1) := by decide +kernel
theorem dX5_copyFrom_9 : decode cX5_copyFrom 9 = .ok (.aload_n 1, 1) := by decide +kernel
theorem dX5_copyFrom_10 : decode cX5_copyFrom 10 = .ok (.getfield 33, 3) := by decide +kernel
theorem dX5_copyFrom_13 : decode cX5_copyFrom 13 = .ok (.putfield 33, 3) := by decide +kernel
theorem dX5_copyFrom_16 : decode cX5_copyFrom 16 = .ok (.aload_n 0, 1) := by decide +kernel
theorem dX5_copyFrom_17 : decode cX5_copyFrom 17 = .ok (.aload_n 1, 1) := by decide +kernel
theorem dX5_copyFrom_18 : decode cX5_copyFrom 18 = .ok (.getfield 36, 3) := by decide +kernel
theorem dX5_copyFrom_21 : decode cX5_copyFrom 21 = .ok (.putfield 36, 3) := by decide +kernel
theorem dX5_copyFrom_24 : decode cX5_copyFrom 24 = .ok (.aload_n 0, 1) := by decide +kernel
theorem dX5_copyFrom_25 : decode cX5_copyFrom 25 = .ok (.aload_n 1, 1) := by decide +kernel
theorem dX5_copyFrom_26 : decode cX5_copyFrom 26 = .ok (.getfield 39, 3) := by decide +kernel
theorem dX5_copyFrom_29 : decode cX5_copyFrom 29 = .ok (.putfield 39, 3) := by decide +kernel
theorem dX5_copyFrom_32 : decode cX5_copyFrom 32 = .ok (.aload_n 0, 1) := by decide +kernel
theorem dX5_copyFrom_33 : decode cX5_copyFrom 33 = .ok (.aload_n 1, 1) := by decide +kernel
theorem dX5_copyFrom_34 : decode cX5_copyFrom 34 = .ok (.getfield 42, 3) := by decide +kernel
theorem dX5_copyFrom_37 : decode cX5_copyFrom 37 = .ok (.putfield 42, 3) := by decide +kernel
theorem dX5_copyFrom_40 : decode cX5_copyFrom 40 = .ok (.aload_n 0, 1) := by decide +kernel
theorem dX5_copyFrom_41 : decode cX5_copyFrom 41 = .ok (.aload_n 1, 1) := by decide +kernel
theorem dX5_copyFrom_42 : decode cX5_copyFrom 42 = .ok (.getfield 45, 3) := by decide +kernel
theorem dX5_copyFrom_45 : decode cX5_copyFrom 45 = .ok (.putfield 45, 3) := by decide +kernel
theorem dX5_copyFrom_48 : decode cX5_copyFrom 48 = .ok (.aload_n 1, 1) := by decide +kernel
theorem dX5_copyFrom_49 : decode cX5_copyFrom 49 = .ok (.getfield 23, 3) := by decide +kernel
theorem dX5_copyFrom_52 : decode cX5_copyFrom 52 = .ok (.iconst 0, 1) := by decide +kernel
theorem dX5_copyFrom_53 : decode cX5_copyFrom 53 = .ok (.aload_n 0, 1) := by decide +kernel
theorem dX5_copyFrom_54 : decode cX5_copyFrom 54 = .ok (.getfield 23, 3) := by decide +kernel
theorem dX5_copyFrom_57 : decode cX5_copyFrom 57 = .ok (.iconst 0, 1) := by decide +kernel
theorem dX5_copyFrom_58 : decode cX5_copyFrom 58 = .ok (.bipush 8, 2) := by decide +kernel
theorem dX5_copyFrom_60 : decode cX5_copyFrom 60 = .ok (.invokestatic 59, 3) := by decide +kernel
theorem dX5_copyFrom_63 : decode cX5_copyFrom 63 = .ok (.iconst 0, 1) := by decide +kernel
theorem dX5_copyFrom_64 : decode cX5_copyFrom 64 = .ok (.istore_n 2, 1) := by decide +kernel
theorem dX5_copyFrom_65 : decode cX5_copyFrom 65 = .ok (.iload_n 2, 1) := by decide +kernel
theorem dX5_copyFrom_66 : decode cX5_copyFrom 66 = .ok (.aload_n 0, 1) := by decide +kernel
theorem dX5_copyFrom_67 : decode cX5_copyFrom 67 = .ok (.getfield 36, 3) := by decide +kernel
theorem dX5_copyFrom_70 : decode cX5_copyFrom 70 = .ok (.if_icmp .ge 24, 3) := by decide +kernel
theorem dX5_copyFrom_73 : decode cX5_copyFrom 73 = .ok (.aload_n 0, 1) := by decide +kernel
theorem dX5_copyFrom_74 : decode cX5_copyFrom 74 = .ok (.getfield 11, 3) := by decide +kernel
theorem dX5_copyFrom_77 : decode cX5_copyFrom 77 = .ok (.iload_n 2, 1) := by decide +kernel
theorem dX5_copyFrom_78 : decode cX5_copyFrom 78 = .ok (.aaload, 1) := by decide +kernel
theorem dX5_copyFrom_79 : decode cX5_copyFrom 79 = .ok (.aload_n 1, 1) := by decide +kernel
theorem dX5_copyFrom_80 : decode cX5_copyFrom 80 = .ok (.getfield 11, 3) := by decide +kernel
theorem dX5_copyFrom_83 : decode cX5_copyFrom 83 = .ok (.iload_n 2, 1) := by decide +kernel
theorem dX5_copyFrom_84 : decode cX5_copyFrom 84 = .ok (.aaload, 1) := by decide +kernel
theorem dX5_copyFrom_85 : decode cX5_copyFrom 85 = .ok (.invokevirtual 65, 3) := by decide +kernel
theorem dX5_copyFrom_88 : decode cX5_copyFrom 88 = .ok (.iinc 2 1, 3) := by decide +kernel
theorem dX5_copyFrom_91 : decode cX5_copyFrom 91 = .ok (.goto (-26), 3) := by decide +kernel
theorem dX5_copyFrom_94 : decode cX5_copyFrom 94 = .ok (.iconst 0, 1) := by decide +kernel
theorem dX5_copyFrom_95 : decode cX5_copyFrom 95 = .ok (.istore_n 2, 1) := by decide +kernel
theorem dX5_copyFrom_96 : decode cX5_copyFrom 96 = .ok (.iload_n 2, 1) := by decide +kernel
theorem dX5_copyFrom_97 : decode cX5_copyFrom 97 = .ok (.bipush 6, 2) := by decide +kernel
theorem dX5_copyFrom_99 : decode cX5_copyFrom 99 = .ok (.if_icmp .ge 24, 3) := by decide +kernel
theorem dX5_copyFrom_102 : decode cX5_copyFrom 102 = .ok (.aload_n 0, 1) := by decide +kernel
theorem dX5_copyFrom_103 : decode cX5_copyFrom 103 = .ok (.getfield 19, 3) := by decide +kernel
theorem dX5_copyFrom_106 : decode cX5_copyFrom 106 = .ok (.iload_n 2, 1) := by decide +kernel
theorem dX5_copyFrom_107 : decode cX5_copyFrom 107 = .ok (.aaload, 1) := by decide +kernel
theorem dX5_copyFrom_108 : decode cX5_copyFrom 108 = .ok (.aload_n 1, 1) := by decide +kernel
theorem dX5_copyFrom_109 : decode cX5_copyFrom 109 = .ok (.getfield 19, 3) := by decide +kernel
theorem dX5_copyFrom_112 : decode cX5_copyFrom 112 = .ok (.iload_n 2, 1) := by decide +kernel
theorem dX5_copyFrom_113 : decode cX5_copyFrom 113 = .ok (.aaload, 1) := by decide +kernel
theorem dX5_copyFrom_114 : decode cX5_copyFrom 114 = .ok (.invokevirtual 69, 3) := by decide +kernel
theorem dX5_copyFrom_117 : decode cX5_copyFrom 117 = .ok (.iinc 2 1, 3) := by decide +kernel
theorem dX5_copyFrom_120 : decode cX5_copyFrom 120 = .ok (.goto (-24), 3) := by decide +kernel
theorem dX5_copyFrom_123 : decode cX5_copyFrom 123 = .ok (.return_, 1) := by decide +kernel
theorem dX4_store_0 : decode cX4_store 0 = .ok (.aload_n 0, 1) := by decide +kernel
theorem dX4_store_1 : decode cX4_store 1 = .ok (.getfield 11, 3) := by decide +kernel
theorem dX4_store_4 : decode cX4_store 4 = .ok (.iload_n 1, 1) := by decide +kernel
theorem dX4_store_5 : decode cX4_store 5 = .ok (.aaload, 1) := by decide +kernel
theorem dX4_store_6 : decode cX4_store 6 = .ok (.ifnonnull 16, 3) := by decide +kernel
theorem dX4_store_9 : decode cX4_store 9 = .ok (.aload_n 0, 1) := by decide +kernel
theorem dX4_store_10 : decode cX4_store 10 = .ok (.getfield 11, 3) := by decide +kernel
theorem dX4_store_13 : decode cX4_store 13 = .ok (.iload_n 1, 1) := by decide +kernel
theorem dX4_store_14 : decode cX4_store 14 = .ok (.new 9, 3) := by decide +kernel
theorem dX4_store_17 : decode cX4_store 17 = .ok (.dup, 1) := by decide +kernel
theorem dX4_store_18 : decode cX4_store 18 = .ok (.invokespecial 21, 3) := by decide +kernel
theorem dX4_store_21 : decode cX4_store 21 = .ok (.aastore, 1) := by decide +kernel
theorem dX4_store_22 : decode cX4_store 22 = .ok (.aload_n 0, 1) := by decide +kernel
theorem dX4_store_23 : decode cX4_store 23 = .ok (.getfield 11, 3) := by decide +kernel
theorem dX4_store_26 : decode cX4_store 26 = .ok (.iload_n 1, 1) := by decide +kernel
theorem dX4_store_27 : decode cX4_store 27 = .ok (.aaload, 1) := by decide +kernel
theorem dX4_store_28 : decode cX4_store 28 = .ok (.aload_n 2, 1) := by decide +kernel
theorem dX4_store_29 : decode cX4_store 29 = .ok (.invokevirtual 22, 3) := by decide +kernel
theorem dX4_store_32 : decode cX4_store 32 = .ok (.aload_n 0, 1) := by decide +kernel
theorem dX4_store_33 : decode cX4_store 33 = .ok (.getfield 17, 3) := by decide +kernel
theorem dX4_store_36 : decode cX4_store 36 = .ok (.iload_n 1, 1) := by decide +kernel
theorem dX4_store_37 : decode cX4_store 37 = .ok (.iconst 1, 1) := by decide +kernel
theorem dX4_store_38 : decode cX4_store 38 = .ok (.bastore, 1) := by decide +kernel
theorem dX4_store_39 : decode cX4_store 39 = .ok (.return_, 1) := by decide +kernel
theorem dX4_storedIn_0 : decode cX4_storedIn 0 = .ok (.aload_n 0, 1) := by decide +kernel
theorem dX4_storedIn_1 : decode cX4_storedIn 1 = .ok (.getfield 17, 3) := by decide +kernel
theorem dX4_storedIn_4 : decode cX4_storedIn 4 = .ok (.iload_n 1, 1) := by decide +kernel
theorem dX4_storedIn_5 : decode cX4_storedIn 5 = .ok (.baload, 1) := by decide +kernel
theorem dX4_storedIn_6 : decode cX4_storedIn 6 = .ok (.ifCond .eq 12, 3) := by decide +kernel
theorem dX4_storedIn_9 : decode cX4_storedIn 9 = .ok (.aload_n 0, 1) := by decide +kernel
theorem dX4_storedIn_10 : decode cX4_storedIn 10 = .ok (.getfield 11, 3) := by decide +kernel
theorem dX4_storedIn_13 : decode cX4_storedIn 13 = .ok (.iload_n 1, 1) := by decide +kernel
theorem dX4_storedIn_14 : decode cX4_storedIn 14 = .ok (.aaload, 1) := by decide +kernel
theorem dX4_storedIn_15 : decode cX4_storedIn 15 = .ok (.goto 4, 3) := by decide +kernel
theorem dX4_storedIn_18 : decode cX4_storedIn 18 = .ok (.aconst_null, 1) := by decide +kernel
theorem dX4_storedIn_19 : decode cX4_storedIn 19 = .ok (.areturn, 1) := by decide +kernel
theorem dX4_emptyAll_0 : decode cX4_emptyAll 0 = .ok (.iconst 0, 1) := by decide +kernel
theorem dX4_emptyAll_1 : decode cX4_emptyAll 1 = .ok (.istore_n 1, 1) := by decide +kernel
theorem dX4_emptyAll_2 : decode cX4_emptyAll 2 = .ok (.iload_n 1, 1) := by decide +kernel
theorem dX4_emptyAll_3 : decode cX4_emptyAll 3 = .ok (.iconst 2, 1) := by decide +kernel
theorem dX4_emptyAll_4 : decode cX4_emptyAll 4 = .ok (.if_icmp .ge 16, 3) := by decide +kernel
theorem dX4_emptyAll_7 : decode cX4_emptyAll 7 = .ok (.aload_n 0, 1) := by decide +kernel
theorem dX4_emptyAll_8 : decode cX4_emptyAll 8 = .ok (.getfield 17, 3) := by decide +kernel
theorem dX4_emptyAll_11 : decode cX4_emptyAll 11 = .ok (.iload_n 1, 1) := by decide +kernel
theorem dX4_emptyAll_12 : decode cX4_emptyAll 12 = .ok (.iconst 0, 1) := by decide +kernel
theorem dX4_emptyAll_13 : decode cX4_emptyAll 13 = .ok (.bastore, 1) := by decide +kernel
theorem dX4_emptyAll_14 : decode cX4_emptyAll 14 = .ok (.iinc 1 1, 3) := by decide +kernel
theorem dX4_emptyAll_17 : decode cX4_emptyAll 17 = .ok (.goto (-15), 3) := by decide +kernel
theorem dX4_emptyAll_20 : decode cX4_emptyAll 20 = .ok (.return_, 1) := by decide +kernel
theorem dX5_hasNumber_0 : decode cX5_hasNumber 0 = .ok (.iload_n 1, 1) := by decide +kernel
theorem dX5_hasNumber_1 : decode cX5_hasNumber 1 = .ok (.ifCond .lt 15, 3) := by decide +kernel
theorem dX5_hasNumber_4 : decode cX5_hasNumber 4 = .ok (.iload_n 1, 1) := by decide +kernel
theorem dX5_hasNumber_5 : decode cX5_hasNumber 5 = .ok (.aload_n 0, 1) := by decide +kernel
theorem dX5_hasNumber_6 : decode cX5_hasNumber 6 = .ok (.getfield 29, 3) := by decide +kernel
theorem dX5_hasNumber_9 : decode cX5_hasNumber 9 = .ok (.if_icmp .ge 7, 3) := by decide +kernel
theorem dX5_hasNumber_12 : decode cX5_hasNumber 12 = .ok (.iconst 1, 1) := by decide +kernel
theorem dX5_hasNumber_13 : decode cX5_hasNumber 13 = .ok (.goto 4, 3) := by decide +kernel
theorem dX5_hasNumber_16 : decode cX5_hasNumber 16 = .ok (.iconst 0, 1) := by decide +kernel
theorem dX5_hasNumber_17 : decode cX5_hasNumber 17 = .ok (.ireturn, 1) := by decide +kernel
theorem dX5_keepCommon_0 : decode cX5_keepCommon 0 = .ok (.aload_n 0, 1) := by decide +kernel
theorem dX5_keepCommon_1 : decode cX5_keepCommon 1 = .ok (.getfield 11, 3) := by decide +kernel
theorem dX5_keepCommon_4 : decode cX5_keepCommon 4 = .ok (.iload_n 1, 1) := by decide +kernel
theorem dX5_keepCommon_5 : decode cX5_keepCommon 5 = .ok (.aaload, 1) := by decide +kernel
theorem dX5_keepCommon_6 : decode cX5_keepCommon 6 = .ok (.astore_n 3, 1) := by decide +kernel
theorem dX5_keepCommon_7 : decode cX5_keepCommon 7 = .ok (.iconst 0, 1) := by decide +kernel
theorem dX5_keepCommon_8 : decode cX5_keepCommon 8 = .ok (.istore 4, 2) := by decide +kernel
theorem dX5_keepCommon_10 : decode cX5_keepCommon 10 = .ok (.aload_n 3, 1) := by decide +kernel
theorem dX5_keepCommon_11 : decode cX5_keepCommon 11 = .ok (.getfield 86, 3) := by decide +kernel
theorem dX5_keepCommon_14 : decode cX5_keepCommon 14 = .ok (.iconst 1, 1) := by decide +kernel
theorem dX5_keepCommon_15 : decode cX5_keepCommon 15 = .ok (.isub, 1) := by decide +kernel
theorem dX5_keepCommon_16 : decode cX5_keepCommon 16 = .ok (.istore 5, 2) := by decide +kernel
theorem dX5_keepCommon_18 : decode cX5_keepCommon 18 = .ok (.iload 5, 2) := by decide +kernel
theorem dX5_keepCommon_20 : decode cX5_keepCommon 20 = .ok (.ifCond .lt 43, 3) := by decide +kernel
theorem dX5_keepCommon_23 : decode cX5_keepCommon 23 = .ok (.aload_n 3, 1) := by decide +kernel
theorem dX5_keepCommon_24 : decode cX5_keepCommon 24 = .ok (.getfield 123, 3) := by decide +kernel
theorem dX5_keepCommon_27 : decode cX5_keepCommon 27 = .ok (.iload 5, 2) := by decide +kernel
theorem dX5_keepCommon_29 : decode cX5_keepCommon 29 = .ok (.iaload, 1) := by decide +kernel
theorem dX5_keepCommon_30 : decode cX5_keepCommon 30 = .ok (.istore 6, 2) := by decide +kernel
theorem dX5_keepCommon_32 : decode cX5_keepCommon 32 = .ok (.aload_n 0, 1) := by decide +kernel
theorem dX5_keepCommon_33 : decode cX5_keepCommon 33 = .ok (.getfield 11, 3) := by decide +kernel
theorem dX5_keepCommon_36 : decode cX5_keepCommon 36 = .ok (.iload_n 2, 1) := by decide +kernel
theorem dX5_keepCommon_37 : decode cX5_keepCommon 37 = .ok (.aaload, 1) := by decide +kernel
theorem dX5_keepCommon_38 : decode cX5_keepCommon 38 = .ok (.iload 6, 2) := by decide +kernel
theorem dX5_keepCommon_40 : decode cX5_keepCommon 40 = .ok (.invokevirtual 82, 3) := by decide +kernel
theorem dX5_keepCommon_43 : decode cX5_keepCommon 43 = .ok (.ifCond .ne 14, 3) := by decide +kernel
theorem dX5_keepCommon_46 : decode cX5_keepCommon 46 = .ok (.aload_n 0, 1) := by decide +kernel
theorem dX5_keepCommon_47 : decode cX5_keepCommon 47 = .ok (.iload_n 1, 1) := by decide +kernel
theorem dX5_keepCommon_48 : decode cX5_keepCommon 48 = .ok (.iload 6, 2) := by decide +kernel
theorem dX5_keepCommon_50 : decode cX5_keepCommon 50 = .ok (.invokevirtual 132, 3) := by decide +kernel
theorem dX5_keepCommon_53 : decode cX5_keepCommon 53 = .ok (.pop, 1) := by decide +kernel
theorem dX5_keepCommon_54 : decode cX5_keepCommon 54 = .ok (.iinc 4 1, 3) := by decide +kernel
theorem dX5_keepCommon_57 : decode cX5_keepCommon 57 = .ok (.iinc 5 (-1), 3) := by decide +kernel
theorem dX5_keepCommon_60 : decode cX5_keepCommon 60 = .ok (.goto (-42), 3) := by decide +kernel
theorem dX5_keepCommon_63 : decode cX5_keepCommon 63 = .ok (.iload 4, 2) := by decide +kernel
theorem dX5_keepCommon_65 : decode cX5_keepCommon 65 = .ok (.ireturn, 1) := by decide +kernel
theorem dX5_bringAll_0 : decode cX5_bringAll 0 = .ok (.aload_n 0, 1) := by decide +kernel
theorem dX5_bringAll_1 : decode cX5_bringAll 1 = .ok (.getfield 11, 3) := by decide +kernel
theorem dX5_bringAll_4 : decode cX5_bringAll 4 = .ok (.iload_n 2, 1) := by decide +kernel
theorem dX5_bringAll_5 : decode cX5_bringAll 5 = .ok (.aaload, 1) := by decide +kernel
theorem dX5_bringAll_6 : decode cX5_bringAll 6 = .ok (.astore_n 3, 1) := by decide +kernel
theorem dX5_bringAll_7 : decode cX5_bringAll 7 = .ok (.iconst 0, 1) := by decide +kernel
theorem dX5_bringAll_8 : decode cX5_bringAll 8 = .ok (.istore 4, 2) := by decide +kernel
theorem dX5_bringAll_10 : decode cX5_bringAll 10 = .ok (.iconst 0, 1) := by decide +kernel
theorem dX5_bringAll_11 : decode cX5_bringAll 11 = .ok (.istore 5, 2) := by decide +kernel
theorem dX5_bringAll_13 : decode cX5_bringAll 13 = .ok (.iload 5, 2) := by decide +kernel
theorem dX5_bringAll_15 : decode cX5_bringAll 15 = .ok (.aload_n 3, 1) := by decide +kernel
theorem dX5_bringAll_16 : decode cX5_bringAll 16 = .ok (.getfield 86, 3) := by decide +kernel
theorem dX5_bringAll_19 : decode cX5_bringAll 19 = .ok (.if_icmp .ge 32, 3) := by decide +kernel
theorem dX5_bringAll_22 : decode cX5_bringAll 22 = .ok (.aload_n 0, 1) := by decide +kernel
theorem dX5_bringAll_23 : decode cX5_bringAll 23 = .ok (.aload_n 0, 1) := by decide +kernel
theorem dX5_bringAll_24 : decode cX5_bringAll 24 = .ok (.getfield 11, 3) := by decide +kernel
theorem dX5_bringAll_27 : decode cX5_bringAll 27 = .ok (.iload_n 1, 1) := by decide +kernel
theorem dX5_bringAll_28 : decode cX5_bringAll 28 = .ok (.aaload, 1) := by decide +kernel
theorem dX5_bringAll_29 : decode cX5_bringAll 29 = .ok (.aload_n 3, 1) := by decide +kernel
theorem dX5_bringAll_30 : decode cX5_bringAll 30 = .ok (.getfield 123, 3) := by decide +kernel
theorem dX5_bringAll_33 : decode cX5_bringAll 33 = .ok (.iload 5, 2) := by decide +kernel
theorem dX5_bringAll_35 : decode cX5_bringAll 35 = .ok (.iaload, 1) := by decide +kernel
theorem dX5_bringAll_36 : decode cX5_bringAll 36 = .ok (.invokevirtual 135, 3) := by decide +kernel
theorem dX5_bringAll_39 : decode cX5_bringAll 39 = .ok (.ifCond .eq 6, 3) := by decide +kernel
theorem dX5_bringAll_42 : decode cX5_bringAll 42 = .ok (.iinc 4 1, 3) := by decide +kernel
theorem dX5_bringAll_45 : decode cX5_bringAll 45 = .ok (.iinc 5 1, 3) := by decide +kernel
theorem dX5_bringAll_48 : decode cX5_bringAll 48 = .ok (.goto (-35), 3) := by decide +kernel
theorem dX5_bringAll_51 : decode cX5_bringAll 51 = .ok (.iload 4, 2) := by decide +kernel
theorem dX5_bringAll_53 : decode cX5_bringAll 53 = .ok (.ireturn, 1) := by decide +kernel
theorem dX5_freeCursor_0 : decode cX5_freeCursor 0 = .ok (.iconst 0, 1) := by decide +kernel
theorem dX5_freeCursor_1 : decode cX5_freeCursor 1 = .ok (.istore_n 1, 1) := by decide +kernel
theorem dX5_freeCursor_2 : decode cX5_freeCursor 2 = .ok (.iload_n 1, 1) := by decide +kernel
theorem dX5_freeCursor_3 : decode cX5_freeCursor 3 = .ok (.bipush 6, 2) := by decide +kernel
theorem dX5_freeCursor_5 : decode cX5_freeCursor 5 = .ok (.if_icmp .ge 23, 3) := by decide +kernel
theorem dX5_freeCursor_8 : decode cX5_freeCursor 8 = .ok (.aload_n 0, 1) := by decide +kernel
theorem dX5_freeCursor_9 : decode cX5_freeCursor 9 = .ok (.getfield 19, 3) := by decide +kernel
theorem dX5_freeCursor_12 : decode cX5_freeCursor 12 = .ok (.iload_n 1, 1) := by decide +kernel
theorem dX5_freeCursor_13 : decode cX5_freeCursor 13 = .ok (.aaload, 1) := by decide +kernel
theorem dX5_freeCursor_14 : decode cX5_freeCursor 14 = .ok (.getfield 48, 3) := by decide +kernel
theorem dX5_freeCursor_17 : decode cX5_freeCursor 17 = .ok (.ifCond .ne 5, 3) := by decide +kernel
theorem dX5_freeCursor_20 : decode cX5_freeCursor 20 = .ok (.iload_n 1, 1) := by decide +kernel
theorem dX5_freeCursor_21 : decode cX5_freeCursor 21 = .ok (.ireturn, 1) := by decide +kernel
theorem dX5_freeCursor_22 : decode cX5_freeCursor 22 = .ok (.iinc 1 1, 3) := by decide +kernel
theorem dX5_freeCursor_25 : decode cX5_freeCursor 25 = .ok (.goto (-23), 3) := by decide +kernel
theorem dX5_freeCursor_28 : decode cX5_freeCursor 28 = .ok (.iconst (-1), 1) := by decide +kernel
theorem dX5_freeCursor_29 : decode cX5_freeCursor 29 = .ok (.ireturn, 1) := by decide +kernel
theorem dX5_countCursors_0 : decode cX5_countCursors 0 = .ok (.iconst 0, 1) := by decide +kernel
theorem dX5_countCursors_1 : decode cX5_countCursors 1 = .ok (.istore_n 1, 1) := by decide +kernel
theorem dX5_countCursors_2 : decode cX5_countCursors 2 = .ok (.iconst 0, 1) := by decide +kernel
theorem dX5_countCursors_3 : decode cX5_countCursors 3 = .ok (.istore_n 2, 1) := by decide +kernel
theorem dX5_countCursors_4 : decode cX5_countCursors 4 = .ok (.iload_n 2, 1) := by decide +kernel
theorem dX5_countCursors_5 : decode cX5_countCursors 5 = .ok (.bipush 6, 2) := by decide +kernel
theorem dX5_countCursors_7 : decode cX5_countCursors 7 = .ok (.if_icmp .ge 29, 3) := by decide +kernel
theorem dX5_countCursors_10 : decode cX5_countCursors 10 = .ok (.iload_n 1, 1) := by decide +kernel
theorem dX5_countCursors_11 : decode cX5_countCursors 11 = .ok (.aload_n 0, 1) := by decide +kernel
theorem dX5_countCursors_12 : decode cX5_countCursors 12 = .ok (.getfield 19, 3) := by decide +kernel
theorem dX5_countCursors_15 : decode cX5_countCursors 15 = .ok (.iload_n 2, 1) := by decide +kernel
theorem dX5_countCursors_16 : decode cX5_countCursors 16 = .ok (.aaload, 1) := by decide +kernel
theorem dX5_countCursors_17 : decode cX5_countCursors 17 = .ok (.getfield 48, 3) := by decide +kernel
theorem dX5_countCursors_20 : decode cX5_countCursors 20 = .ok (.ifCond .eq 7, 3) := by decide +kernel
theorem dX5_countCursors_23 : decode cX5_countCursors 23 = .ok (.iconst 1, 1) := by decide +kernel
theorem dX5_countCursors_24 : decode cX5_countCursors 24 = .ok (.goto 4, 3) := by decide +kernel
theorem dX5_countCursors_27 : decode cX5_countCursors 27 = .ok (.iconst 0, 1) := by decide +kernel
theorem dX5_countCursors_28 : decode cX5_countCursors 28 = .ok (.iadd, 1) := by decide +kernel
theorem dX5_countCursors_29 : decode cX5_countCursors 29 = .ok (.istore_n 1, 1) := by decide +kernel
theorem dX5_countCursors_30 : decode cX5_countCursors 30 = .ok (.iinc 2 1, 3) := by decide +kernel
theorem dX5_countCursors_33 : decode cX5_countCursors 33 = .ok (.goto (-29), 3) := by decide +kernel
theorem dX5_countCursors_36 : decode cX5_countCursors 36 = .ok (.iload_n 1, 1) := by decide +kernel
theorem dX5_countCursors_37 : decode cX5_countCursors 37 = .ok (.ireturn, 1) := by decide +kernel
theorem dX5_countOpenCursors_0 : decode cX5_countOpenCursors 0 = .ok (.iconst 0, 1) := by decide +kernel
theorem dX5_countOpenCursors_1 : decode cX5_countOpenCursors 1 = .ok (.istore_n 2, 1) := by decide +kernel
theorem dX5_countOpenCursors_2 : decode cX5_countOpenCursors 2 = .ok (.iconst 0, 1) := by decide +kernel
theorem dX5_countOpenCursors_3 : decode cX5_countOpenCursors 3 = .ok (.istore_n 3, 1) := by decide +kernel
theorem dX5_countOpenCursors_4 : decode cX5_countOpenCursors 4 = .ok (.iload_n 3, 1) := by decide +kernel
theorem dX5_countOpenCursors_5 : decode cX5_countOpenCursors 5 = .ok (.bipush 6, 2) := by decide +kernel
theorem dX5_countOpenCursors_7 : decode cX5_countOpenCursors 7 = .ok (.if_icmp .ge 30, 3) := by decide +kernel
theorem dX5_countOpenCursors_10 : decode cX5_countOpenCursors 10 = .ok (.iload_n 2, 1) := by decide +kernel
theorem dX5_countOpenCursors_11 : decode cX5_countOpenCursors 11 = .ok (.aload_n 0, 1) := by decide +kernel
theorem dX5_countOpenCursors_12 : decode cX5_countOpenCursors 12 = .ok (.getfield 19, 3) := by decide +kernel
theorem dX5_countOpenCursors_15 : decode cX5_countOpenCursors 15 = .ok (.iload_n 3, 1) := by decide +kernel
theorem dX5_countOpenCursors_16 : decode cX5_countOpenCursors 16 = .ok (.aaload, 1) := by decide +kernel
theorem dX5_countOpenCursors_17 : decode cX5_countOpenCursors 17 = .ok (.iload_n 1, 1) := by decide +kernel
theorem dX5_countOpenCursors_18 : decode cX5_countOpenCursors 18 = .ok (.invokevirtual 117, 3) := by decide +kernel
theorem dX5_countOpenCursors_21 : decode cX5_countOpenCursors 21 = .ok (.ifCond .eq 7, 3) := by decide +kernel
theorem dX5_countOpenCursors_24 : decode cX5_countOpenCursors 24 = .ok (.iconst 1, 1) := by decide +kernel
theorem dX5_countOpenCursors_25 : decode cX5_countOpenCursors 25 = .ok (.goto 4, 3) := by decide +kernel
theorem dX5_countOpenCursors_28 : decode cX5_countOpenCursors 28 = .ok (.iconst 0, 1) := by decide +kernel
theorem dX5_countOpenCursors_29 : decode cX5_countOpenCursors 29 = .ok (.iadd, 1) := by decide +kernel
theorem dX5_countOpenCursors_30 : decode cX5_countOpenCursors 30 = .ok (.istore_n 2, 1) := by decide +kernel
theorem dX5_countOpenCursors_31 : decode cX5_countOpenCursors 31 = .ok (.iinc 3 1, 3) := by decide +kernel
theorem dX5_countOpenCursors_34 : decode cX5_countOpenCursors 34 = .ok (.goto (-30), 3) := by decide +kernel
theorem dX5_countOpenCursors_37 : decode cX5_countOpenCursors 37 = .ok (.iload_n 2, 1) := by decide +kernel
theorem dX5_countOpenCursors_38 : decode cX5_countOpenCursors 38 = .ok (.ireturn, 1) := by decide +kernel
theorem dX7_stampAt_0 : decode cX7_stampAt 0 = .ok (.aload_n 0, 1) := by decide +kernel
theorem dX7_stampAt_1 : decode cX7_stampAt 1 = .ok (.getfield 18, 3) := by decide +kernel
theorem dX7_stampAt_4 : decode cX7_stampAt 4 = .ok (.aload_n 0, 1) := by decide +kernel
theorem dX7_stampAt_5 : decode cX7_stampAt 5 = .ok (.getfield 9, 3) := by decide +kernel
theorem dX7_stampAt_8 : decode cX7_stampAt 8 = .ok (.iload_n 1, 1) := by decide +kernel
theorem dX7_stampAt_9 : decode cX7_stampAt 9 = .ok (.iaload, 1) := by decide +kernel
theorem dX7_stampAt_10 : decode cX7_stampAt 10 = .ok (.iaload, 1) := by decide +kernel
theorem dX7_stampAt_11 : decode cX7_stampAt 11 = .ok (.ireturn, 1) := by decide +kernel
theorem dX5_countAhead_0 : decode cX5_countAhead 0 = .ok (.iconst 0, 1) := by decide +kernel
theorem dX5_countAhead_1 : decode cX5_countAhead 1 = .ok (.istore_n 2, 1) := by decide +kernel
theorem dX5_countAhead_2 : decode cX5_countAhead 2 = .ok (.aload_n 0, 1) := by decide +kernel
theorem dX5_countAhead_3 : decode cX5_countAhead 3 = .ok (.getfield 11, 3) := by decide +kernel
theorem dX5_countAhead_6 : decode cX5_countAhead 6 = .ok (.aload_n 1, 1) := by decide +kernel
theorem dX5_countAhead_7 : decode cX5_countAhead 7 = .ok (.getfield 139, 3) := by decide +kernel
theorem dX5_countAhead_10 : decode cX5_countAhead 10 = .ok (.aaload, 1) := by decide +kernel
theorem dX5_countAhead_11 : decode cX5_countAhead 11 = .ok (.astore_n 3, 1) := by decide +kernel
theorem dX5_countAhead_12 : decode cX5_countAhead 12 = .ok (.aload_n 1, 1) := by decide +kernel
theorem dX5_countAhead_13 : decode cX5_countAhead 13 = .ok (.getfield 120, 3) := by decide +kernel
theorem dX5_countAhead_16 : decode cX5_countAhead 16 = .ok (.istore 4, 2) := by decide +kernel
theorem dX5_countAhead_18 : decode cX5_countAhead 18 = .ok (.aload_n 1, 1) := by decide +kernel
theorem dX5_countAhead_19 : decode cX5_countAhead 19 = .ok (.getfield 52, 3) := by decide +kernel
theorem dX5_countAhead_22 : decode cX5_countAhead 22 = .ok (.ifCond .eq 39, 3) := by decide +kernel
theorem dX5_countAhead_25 : decode cX5_countAhead 25 = .ok (.iload 4, 2) := by decide +kernel
theorem dX5_countAhead_27 : decode cX5_countAhead 27 = .ok (.aload_n 3, 1) := by decide +kernel
theorem dX5_countAhead_28 : decode cX5_countAhead 28 = .ok (.getfield 86, 3) := by decide +kernel
theorem dX5_countAhead_31 : decode cX5_countAhead 31 = .ok (.if_icmp .ge 30, 3) := by decide +kernel
theorem dX5_countAhead_34 : decode cX5_countAhead 34 = .ok (.iload_n 2, 1) := by decide +kernel
theorem dX5_countAhead_35 : decode cX5_countAhead 35 = .ok (.aload_n 1, 1) := by decide +kernel
theorem dX5_countAhead_36 : decode cX5_countAhead 36 = .ok (.aload_n 3, 1) := by decide +kernel
theorem dX5_countAhead_37 : decode cX5_countAhead 37 = .ok (.iload 4, 2) := by decide +kernel
theorem dX5_countAhead_39 : decode cX5_countAhead 39 = .ok (.invokevirtual 142, 3) := by decide +kernel
theorem dX5_countAhead_42 : decode cX5_countAhead 42 = .ok (.invokevirtual 145, 3) := by decide +kernel
theorem dX5_countAhead_45 : decode cX5_countAhead 45 = .ok (.ifCond .eq 7, 3) := by decide +kernel
theorem dX5_countAhead_48 : decode cX5_countAhead 48 = .ok (.iconst 1, 1) := by decide +kernel
theorem dX5_countAhead_49 : decode cX5_countAhead 49 = .ok (.goto 4, 3) := by decide +kernel
theorem dX5_countAhead_52 : decode cX5_countAhead 52 = .ok (.iconst 0, 1) := by decide +kernel
theorem dX5_countAhead_53 : decode cX5_countAhead 53 = .ok (.iadd, 1) := by decide +kernel
theorem dX5_countAhead_54 : decode cX5_countAhead 54 = .ok (.istore_n 2, 1) := by decide +kernel
theorem dX5_countAhead_55 : decode cX5_countAhead 55 = .ok (.iinc 4 1, 3) := by decide +kernel
theorem dX5_countAhead_58 : decode cX5_countAhead 58 = .ok (.goto (-40), 3) := by decide +kernel
theorem dX5_countAhead_61 : decode cX5_countAhead 61 = .ok (.iload_n 2, 1) := by decide +kernel
theorem dX5_countAhead_62 : decode cX5_countAhead 62 = .ok (.ireturn, 1) := by decide +kernel
theorem dX5_meetNext_0 : decode cX5_meetNext 0 = .ok (.aload_n 0, 1) := by decide +kernel
theorem dX5_meetNext_1 : decode cX5_meetNext 1 = .ok (.getfield 11, 3) := by decide +kernel
theorem dX5_meetNext_4 : decode cX5_meetNext 4 = .ok (.aload_n 1, 1) := by decide +kernel
theorem dX5_meetNext_5 : decode cX5_meetNext 5 = .ok (.getfield 139, 3) := by decide +kernel
theorem dX5_meetNext_8 : decode cX5_meetNext 8 = .ok (.aaload, 1) := by decide +kernel
theorem dX5_meetNext_9 : decode cX5_meetNext 9 = .ok (.astore_n 2, 1) := by decide +kernel
theorem dX5_meetNext_10 : decode cX5_meetNext 10 = .ok (.aload_n 1, 1) := by decide +kernel
theorem dX5_meetNext_11 : decode cX5_meetNext 11 = .ok (.getfield 120, 3) := by decide +kernel
theorem dX5_meetNext_14 : decode cX5_meetNext 14 = .ok (.istore_n 3, 1) := by decide +kernel
theorem dX5_meetNext_15 : decode cX5_meetNext 15 = .ok (.iload_n 3, 1) := by decide +kernel
theorem dX5_meetNext_16 : decode cX5_meetNext 16 = .ok (.aload_n 2, 1) := by decide +kernel
theorem dX5_meetNext_17 : decode cX5_meetNext 17 = .ok (.getfield 86, 3) := by decide +kernel
theorem dX5_meetNext_20 : decode cX5_meetNext 20 = .ok (.if_icmp .ge 63, 3) := by decide +kernel
theorem dX5_meetNext_23 : decode cX5_meetNext 23 = .ok (.aload_n 1, 1) := by decide +kernel
theorem dX5_meetNext_24 : decode cX5_meetNext 24 = .ok (.iload_n 3, 1) := by decide +kernel
theorem dX5_meetNext_25 : decode cX5_meetNext 25 = .ok (.iconst 1, 1) := by decide +kernel
theorem dX5_meetNext_26 : decode cX5_meetNext 26 = .ok (.iadd, 1) := by decide +kernel
theorem dX5_meetNext_27 : decode cX5_meetNext 27 = .ok (.putfield 120, 3) := by decide +kernel
theorem dX5_meetNext_30 : decode cX5_meetNext 30 = .ok (.aload_n 0, 1) := by decide +kernel
theorem dX5_meetNext_31 : decode cX5_meetNext 31 = .ok (.dup, 1) := by decide +kernel
theorem dX5_meetNext_32 : decode cX5_meetNext 32 = .ok (.getfield 45, 3) := by decide +kernel
theorem dX5_meetNext_35 : decode cX5_meetNext 35 = .ok (.iconst 1, 1) := by decide +kernel
theorem dX5_meetNext_36 : decode cX5_meetNext 36 = .ok (.iadd, 1) := by decide +kernel
theorem dX5_meetNext_37 : decode cX5_meetNext 37 = .ok (.putfield 45, 3) := by decide +kernel
theorem dX5_meetNext_40 : decode cX5_meetNext 40 = .ok (.aload_n 1, 1) := by decide +kernel
theorem dX5_meetNext_41 : decode cX5_meetNext 41 = .ok (.aload_n 2, 1) := by decide +kernel
theorem dX5_meetNext_42 : decode cX5_meetNext 42 = .ok (.iload_n 3, 1) := by decide +kernel
theorem dX5_meetNext_43 : decode cX5_meetNext 43 = .ok (.invokevirtual 142, 3) := by decide +kernel
theorem dX5_meetNext_46 : decode cX5_meetNext 46 = .ok (.invokevirtual 145, 3) := by decide +kernel
theorem dX5_meetNext_49 : decode cX5_meetNext 49 = .ok (.ifCond .eq 28, 3) := by decide +kernel
theorem dX5_meetNext_52 : decode cX5_meetNext 52 = .ok (.aload_n 1, 1) := by decide +kernel
theorem dX5_meetNext_53 : decode cX5_meetNext 53 = .ok (.dup, 1) := by decide +kernel
theorem dX5_meetNext_54 : decode cX5_meetNext 54 = .ok (.getfield 148, 3) := by decide +kernel
theorem dX5_meetNext_57 : decode cX5_meetNext 57 = .ok (.iconst 1, 1) := by decide +kernel
theorem dX5_meetNext_58 : decode cX5_meetNext 58 = .ok (.iadd, 1) := by decide +kernel
theorem dX5_meetNext_59 : decode cX5_meetNext 59 = .ok (.putfield 148, 3) := by decide +kernel
theorem dX5_meetNext_62 : decode cX5_meetNext 62 = .ok (.aload_n 1, 1) := by decide +kernel
theorem dX5_meetNext_63 : decode cX5_meetNext 63 = .ok (.aload_n 2, 1) := by decide +kernel
theorem dX5_meetNext_64 : decode cX5_meetNext 64 = .ok (.getfield 123, 3) := by decide +kernel
theorem dX5_meetNext_67 : decode cX5_meetNext 67 = .ok (.iload_n 3, 1) := by decide +kernel
theorem dX5_meetNext_68 : decode cX5_meetNext 68 = .ok (.iaload, 1) := by decide +kernel
theorem dX5_meetNext_69 : decode cX5_meetNext 69 = .ok (.putfield 151, 3) := by decide +kernel
theorem dX5_meetNext_72 : decode cX5_meetNext 72 = .ok (.aload_n 1, 1) := by decide +kernel
theorem dX5_meetNext_73 : decode cX5_meetNext 73 = .ok (.getfield 151, 3) := by decide +kernel
theorem dX5_meetNext_76 : decode cX5_meetNext 76 = .ok (.ireturn, 1) := by decide +kernel
theorem dX5_meetNext_77 : decode cX5_meetNext 77 = .ok (.iinc 3 1, 3) := by decide +kernel
theorem dX5_meetNext_80 : decode cX5_meetNext 80 = .ok (.goto (-65), 3) := by decide +kernel
theorem dX5_meetNext_83 : decode cX5_meetNext 83 = .ok (.aload_n 1, 1) := by decide +kernel
theorem dX5_meetNext_84 : decode cX5_meetNext 84 = .ok (.iconst 0, 1) := by decide +kernel
theorem dX5_meetNext_85 : decode cX5_meetNext 85 = .ok (.putfield 52, 3) := by decide +kernel
theorem dX5_meetNext_88 : decode cX5_meetNext 88 = .ok (.iconst (-1), 1) := by decide +kernel
theorem dX5_meetNext_89 : decode cX5_meetNext 89 = .ok (.ireturn, 1) := by decide +kernel
theorem dX7_bits_0 : decode cX7_bits 0 = .ok (.lconst 0, 1) := by decide +kernel
theorem dX7_bits_1 : decode cX7_bits 1 = .ok (.lstore_n 1, 1) := by decide +kernel
theorem dX7_bits_2 : decode cX7_bits 2 = .ok (.iconst 0, 1) := by decide +kernel
theorem dX7_bits_3 : decode cX7_bits 3 = .ok (.istore_n 3, 1) := by decide +kernel
theorem dX7_bits_4 : decode cX7_bits 4 = .ok (.iload_n 3, 1) := by decide +kernel
theorem dX7_bits_5 : decode cX7_bits 5 = .ok (.aload_n 0, 1) := by decide +kernel
theorem dX7_bits_6 : decode cX7_bits 6 = .ok (.getfield 34, 3) := by decide +kernel
theorem dX7_bits_9 : decode cX7_bits 9 = .ok (.if_icmp .ge 20, 3) := by decide +kernel
theorem dX7_bits_12 : decode cX7_bits 12 = .ok (.lload_n 1, 1) := by decide +kernel
theorem dX7_bits_13 : decode cX7_bits 13 = .ok (.lconst 1, 1) := by decide +kernel
theorem dX7_bits_14 : decode cX7_bits 14 = .ok (.aload_n 0, 1) := by decide +kernel
theorem dX7_bits_15 : decode cX7_bits 15 = .ok (.getfield 9, 3) := by decide +kernel
theorem dX7_bits_18 : decode cX7_bits 18 = .ok (.iload_n 3, 1) := by decide +kernel
theorem dX7_bits_19 : decode cX7_bits 19 = .ok (.iaload, 1) := by decide +kernel
theorem dX7_bits_20 : decode cX7_bits 20 = .ok (.lshl, 1) := by decide +kernel
theorem dX7_bits_21 : decode cX7_bits 21 = .ok (.lor, 1) := by decide +kernel
theorem dX7_bits_22 : decode cX7_bits 22 = .ok (.lstore_n 1, 1) := by decide +kernel
theorem dX7_bits_23 : decode cX7_bits 23 = .ok (.iinc 3 1, 3) := by decide +kernel
theorem dX7_bits_26 : decode cX7_bits 26 = .ok (.goto (-22), 3) := by decide +kernel
theorem dX7_bits_29 : decode cX7_bits 29 = .ok (.lload_n 1, 1) := by decide +kernel
theorem dX7_bits_30 : decode cX7_bits 30 = .ok (.lreturn, 1) := by decide +kernel
theorem dX8_init_0 : decode cX8_init 0 = .ok (.aload_n 0, 1) := by decide +kernel
theorem dX8_init_1 : decode cX8_init 1 = .ok (.invokespecial 3, 3) := by decide +kernel
theorem dX8_init_4 : decode cX8_init 4 = .ok (.aload_n 0, 1) := by decide +kernel
theorem dX8_init_5 : decode cX8_init 5 = .ok (.bipush 10, 2) := by decide +kernel
theorem dX8_init_7 : decode cX8_init 7 = .ok (.anewarray 9, 3) := by decide +kernel
theorem dX8_init_10 : decode cX8_init 10 = .ok (.putfield 11, 3) := by decide +kernel
theorem dX8_init_13 : decode cX8_init 13 = .ok (.return_, 1) := by decide +kernel
theorem dX8_remember_0 : decode cX8_remember 0 = .ok (.aload_n 0, 1) := by decide +kernel
theorem dX8_remember_1 : decode cX8_remember 1 = .ok (.getfield 11, 3) := by decide +kernel
theorem dX8_remember_4 : decode cX8_remember 4 = .ok (.aload_n 0, 1) := by decide +kernel
theorem dX8_remember_5 : decode cX8_remember 5 = .ok (.getfield 17, 3) := by decide +kernel
theorem dX8_remember_8 : decode cX8_remember 8 = .ok (.aaload, 1) := by decide +kernel
theorem dX8_remember_9 : decode cX8_remember 9 = .ok (.ifnonnull 19, 3) := by decide +kernel
theorem dX8_remember_12 : decode cX8_remember 12 = .ok (.aload_n 0, 1) := by decide +kernel
theorem dX8_remember_13 : decode cX8_remember 13 = .ok (.getfield 11, 3) := by decide +kernel
theorem dX8_remember_16 : decode cX8_remember 16 = .ok (.aload_n 0, 1) := by decide +kernel
theorem dX8_remember_17 : decode cX8_remember 17 = .ok (.getfield 17, 3) := by decide +kernel
theorem dX8_remember_20 : decode cX8_remember 20 = .ok (.new 9, 3) := by decide +kernel
theorem dX8_remember_23 : decode cX8_remember 23 = .ok (.dup, 1) := by decide +kernel
theorem dX8_remember_24 : decode cX8_remember 24 = .ok (.invokespecial 21, 3) := by decide +kernel
theorem dX8_remember_27 : decode cX8_remember 27 = .ok (.aastore, 1) := by decide +kernel
theorem dX8_remember_28 : decode cX8_remember 28 = .ok (.aload_n 0, 1) := by decide +kernel
theorem dX8_remember_29 : decode cX8_remember 29 = .ok (.getfield 11, 3) := by decide +kernel
theorem dX8_remember_32 : decode cX8_remember 32 = .ok (.aload_n 0, 1) := by decide +kernel
theorem dX8_remember_33 : decode cX8_remember 33 = .ok (.getfield 17, 3) := by decide +kernel
theorem dX8_remember_36 : decode cX8_remember 36 = .ok (.aaload, 1) := by decide +kernel
theorem dX8_remember_37 : decode cX8_remember 37 = .ok (.aload_n 1, 1) := by decide +kernel
theorem dX8_remember_38 : decode cX8_remember 38 = .ok (.invokevirtual 22, 3) := by decide +kernel
theorem dX8_remember_41 : decode cX8_remember 41 = .ok (.aload_n 0, 1) := by decide +kernel
theorem dX8_remember_42 : decode cX8_remember 42 = .ok (.aload_n 0, 1) := by decide +kernel
theorem dX8_remember_43 : decode cX8_remember 43 = .ok (.getfield 17, 3) := by decide +kernel
theorem dX8_remember_46 : decode cX8_remember 46 = .ok (.iconst 1, 1) := by decide +kernel
theorem dX8_remember_47 : decode cX8_remember 47 = .ok (.iadd, 1) := by decide +kernel
theorem dX8_remember_48 : decode cX8_remember 48 = .ok (.bipush 10, 2) := by decide +kernel
theorem dX8_remember_50 : decode cX8_remember 50 = .ok (.irem, 1) := by decide +kernel
theorem dX8_remember_51 : decode cX8_remember 51 = .ok (.putfield 17, 3) := by decide +kernel
theorem dX8_remember_54 : decode cX8_remember 54 = .ok (.aload_n 0, 1) := by decide +kernel
theorem dX8_remember_55 : decode cX8_remember 55 = .ok (.aload_n 0, 1) := by decide +kernel
theorem dX8_remember_56 : decode cX8_remember 56 = .ok (.getfield 26, 3) := by decide +kernel
theorem dX8_remember_59 : decode cX8_remember 59 = .ok (.iconst 1, 1) := by decide +kernel
theorem dX8_remember_60 : decode cX8_remember 60 = .ok (.iadd, 1) := by decide +kernel
theorem dX8_remember_61 : decode cX8_remember 61 = .ok (.bipush 10, 2) := by decide +kernel
theorem dX8_remember_63 : decode cX8_remember 63 = .ok (.invokestatic 29, 3) := by decide +kernel
theorem dX8_remember_66 : decode cX8_remember 66 = .ok (.putfield 26, 3) := by decide +kernel
theorem dX8_remember_69 : decode cX8_remember 69 = .ok (.return_, 1) := by decide +kernel
theorem dX8_takeBack_0 : decode cX8_takeBack 0 = .ok (.aload_n 0, 1) := by decide +kernel
theorem dX8_takeBack_1 : decode cX8_takeBack 1 = .ok (.getfield 17, 3) := by decide +kernel
theorem dX8_takeBack_4 : decode cX8_takeBack 4 = .ok (.bipush 10, 2) := by decide +kernel
theorem dX8_takeBack_6 : decode cX8_takeBack 6 = .ok (.iadd, 1) := by decide +kernel
theorem dX8_takeBack_7 : decode cX8_takeBack 7 = .ok (.iconst 1, 1) := by decide +kernel
theorem dX8_takeBack_8 : decode cX8_takeBack 8 = .ok (.isub, 1) := by decide +kernel
theorem dX8_takeBack_9 : decode cX8_takeBack 9 = .ok (.bipush 10, 2) := by decide +kernel
theorem dX8_takeBack_11 : decode cX8_takeBack 11 = .ok (.irem, 1) := by decide +kernel
theorem dX8_takeBack_12 : decode cX8_takeBack 12 = .ok (.istore_n 2, 1) := by decide +kernel
theorem dX8_takeBack_13 : decode cX8_takeBack 13 = .ok (.aload_n 0, 1) := by decide +kernel
theorem dX8_takeBack_14 : decode cX8_takeBack 14 = .ok (.getfield 26, 3) := by decide +kernel
theorem dX8_takeBack_17 : decode cX8_takeBack 17 = .ok (.ifCond .eq 12, 3) := by decide +kernel
theorem dX8_takeBack_20 : decode cX8_takeBack 20 = .ok (.aload_n 0, 1) := by decide +kernel
theorem dX8_takeBack_21 : decode cX8_takeBack 21 = .ok (.getfield 11, 3) := by decide +kernel
theorem dX8_takeBack_24 : decode cX8_takeBack 24 = .ok (.iload_n 2, 1) := by decide +kernel
theorem dX8_takeBack_25 : decode cX8_takeBack 25 = .ok (.aaload, 1) := by decide +kernel
theorem dX8_takeBack_26 : decode cX8_takeBack 26 = .ok (.ifnonnull 5, 3) := by decide +kernel
theorem dX8_takeBack_29 : decode cX8_takeBack 29 = .ok (.iconst 0, 1) := by decide +kernel
theorem dX8_takeBack_30 : decode cX8_takeBack 30 = .ok (.ireturn, 1) := by decide +kernel
theorem dX8_takeBack_31 : decode cX8_takeBack 31 = .ok (.aload_n 1, 1) := by decide +kernel
theorem dX8_takeBack_32 : decode cX8_takeBack 32 = .ok (.aload_n 0, 1) := by decide +kernel
theorem dX8_takeBack_33 : decode cX8_takeBack 33 = .ok (.getfield 11, 3) := by decide +kernel
theorem dX8_takeBack_36 : decode cX8_takeBack 36 = .ok (.iload_n 2, 1) := by decide +kernel
theorem dX8_takeBack_37 : decode cX8_takeBack 37 = .ok (.aaload, 1) := by decide +kernel
theorem dX8_takeBack_38 : decode cX8_takeBack 38 = .ok (.invokevirtual 22, 3) := by decide +kernel
theorem dX8_takeBack_41 : decode cX8_takeBack 41 = .ok (.aload_n 0, 1) := by decide +kernel
theorem dX8_takeBack_42 : decode cX8_takeBack 42 = .ok (.iload_n 2, 1) := by decide +kernel
theorem dX8_takeBack_43 : decode cX8_takeBack 43 = .ok (.putfield 17, 3) := by decide +kernel
theorem dX8_takeBack_46 : decode cX8_takeBack 46 = .ok (.aload_n 0, 1) := by decide +kernel
theorem dX8_takeBack_47 : decode cX8_takeBack 47 = .ok (.dup, 1) := by decide +kernel
theorem dX8_takeBack_48 : decode cX8_takeBack 48 = .ok (.getfield 26, 3) := by decide +kernel
theorem dX8_takeBack_51 : decode cX8_takeBack 51 = .ok (.iconst 1, 1) := by decide +kernel
theorem dX8_takeBack_52 : decode cX8_takeBack 52 = .ok (.isub, 1) := by decide +kernel
theorem dX8_takeBack_53 : decode cX8_takeBack 53 = .ok (.putfield 26, 3) := by decide +kernel
theorem dX8_takeBack_56 : decode cX8_takeBack 56 = .ok (.iconst 1, 1) := by decide +kernel
theorem dX8_takeBack_57 : decode cX8_takeBack 57 = .ok (.ireturn, 1) := by decide +kernel
theorem dX8_forgetAll_0 : decode cX8_forgetAll 0 = .ok (.aload_n 0, 1) := by decide +kernel
theorem dX8_forgetAll_1 : decode cX8_forgetAll 1 = .ok (.iconst 0, 1) := by decide +kernel
theorem dX8_forgetAll_2 : decode cX8_forgetAll 2 = .ok (.putfield 26, 3) := by decide +kernel
theorem dX8_forgetAll_5 : decode cX8_forgetAll 5 = .ok (.return_, 1) := by decide +kernel
theorem dX9_init_0 : decode cX9_init 0 = .ok (.aload_n 0, 1) := by decide +kernel
theorem dX9_init_1 : decode cX9_init 1 = .ok (.invokespecial 1, 3) := by decide +kernel
theorem dX9_init_4 : decode cX9_init 4 = .ok (.aload_n 0, 1) := by decide +kernel
theorem dX9_init_5 : decode cX9_init 5 = .ok (.new 7, 3) := by decide +kernel
theorem dX9_init_8 : decode cX9_init 8 = .ok (.dup, 1) := by decide +kernel
theorem dX9_init_9 : decode cX9_init 9 = .ok (.invokespecial 9, 3) := by decide +kernel
theorem dX9_init_12 : decode cX9_init 12 = .ok (.putfield 10, 3) := by decide +kernel
theorem dX9_init_15 : decode cX9_init 15 = .ok (.aload_n 0, 1) := by decide +kernel
theorem dX9_init_16 : decode cX9_init 16 = .ok (.new 16, 3) := by decide +kernel
theorem dX9_init_19 : decode cX9_init 19 = .ok (.dup, 1) := by decide +kernel
theorem dX9_init_20 : decode cX9_init 20 = .ok (.invokespecial 18, 3) := by decide +kernel
theorem dX9_init_23 : decode cX9_init 23 = .ok (.putfield 19, 3) := by decide +kernel
theorem dX9_init_26 : decode cX9_init 26 = .ok (.aload_n 0, 1) := by decide +kernel
theorem dX9_init_27 : decode cX9_init 27 = .ok (.new 23, 3) := by decide +kernel
theorem dX9_init_30 : decode cX9_init 30 = .ok (.dup, 1) := by decide +kernel
theorem dX9_init_31 : decode cX9_init 31 = .ok (.invokespecial 25, 3) := by decide +kernel
theorem dX9_init_34 : decode cX9_init 34 = .ok (.putfield 26, 3) := by decide +kernel
theorem dX9_init_37 : decode cX9_init 37 = .ok (.aload_n 0, 1) := by decide +kernel
theorem dX9_init_38 : decode cX9_init 38 = .ok (.new 30, 3) := by decide +kernel
theorem dX9_init_41 : decode cX9_init 41 = .ok (.dup, 1) := by decide +kernel
theorem dX9_init_42 : decode cX9_init 42 = .ok (.invokespecial 32, 3) := by decide +kernel
theorem dX9_init_45 : decode cX9_init 45 = .ok (.putfield 33, 3) := by decide +kernel
theorem dX9_init_48 : decode cX9_init 48 = .ok (.aload_n 0, 1) := by decide +kernel
theorem dX9_init_49 : decode cX9_init 49 = .ok (.new 30, 3) := by decide +kernel
theorem dX9_init_52 : decode cX9_init 52 = .ok (.dup, 1) := by decide +kernel
theorem dX9_init_53 : decode cX9_init 53 = .ok (.invokespecial 32, 3) := by decide +kernel
theorem dX9_init_56 : decode cX9_init 56 = .ok (.putfield 37, 3) := by decide +kernel
theorem dX9_init_59 : decode cX9_init 59 = .ok (.aload_n 0, 1) := by decide +kernel
theorem dX9_init_60 : decode cX9_init 60 = .ok (.iconst (-1), 1) := by decide +kernel
theorem dX9_init_61 : decode cX9_init 61 = .ok (.putfield 40, 3) := by decide +kernel
theorem dX9_init_64 : decode cX9_init 64 = .ok (.aload_n 0, 1) := by decide +kernel
theorem dX9_init_65 : decode cX9_init 65 = .ok (.getfield 33, 3) := by decide +kernel
theorem dX9_init_68 : decode cX9_init 68 = .ok (.iconst 1, 1) := by decide +kernel
theorem dX9_init_69 : decode cX9_init 69 = .ok (.iconst 1, 1) := by decide +kernel
theorem dX9_init_70 : decode cX9_init 70 = .ok (.invokevirtual 44, 3) := by decide +kernel
theorem dX9_init_73 : decode cX9_init 73 = .ok (.return_, 1) := by decide +kernel
theorem dX9_append_0 : decode cX9_append 0 = .ok (.aload_n 0, 1) := by decide +kernel
theorem dX9_append_1 : decode cX9_append 1 = .ok (.getfield 10, 3) := by decide +kernel
theorem dX9_append_4 : decode cX9_append 4 = .ok (.getfield 48, 3) := by decide +kernel
theorem dX9_append_7 : decode cX9_append 7 = .ok (.bipush 20, 2) := by decide +kernel
theorem dX9_append_9 : decode cX9_append 9 = .ok (.iadd, 1) := by decide +kernel
theorem dX9_append_10 : decode cX9_append 10 = .ok (.sipush 600, 3) := by decide +kernel
theorem dX9_append_13 : decode cX9_append 13 = .ok (.if_icmp .le 5, 3) := by decide +kernel
theorem dX9_append_16 : decode cX9_append 16 = .ok (.iconst (-1), 1) := by decide +kernel
theorem dX9_append_17 : decode cX9_append 17 = .ok (.ireturn, 1) := by decide +kernel
theorem dX9_append_18 : decode cX9_append 18 = .ok (.aload_n 0, 1) := by decide +kernel
theorem dX9_append_19 : decode cX9_append 19 = .ok (.getfield 10, 3) := by decide +kernel
theorem dX9_append_22 : decode cX9_append 22 = .ok (.iload_n 1, 1) := by decide +kernel
theorem dX9_append_23 : decode cX9_append 23 = .ok (.invokevirtual 51, 3) := by decide +kernel
theorem dX9_append_26 : decode cX9_append 26 = .ok (.aload_n 0, 1) := by decide +kernel
theorem dX9_append_27 : decode cX9_append 27 = .ok (.getfield 10, 3) := by decide +kernel
theorem dX9_append_30 : decode cX9_append 30 = .ok (.iload_n 2, 1) := by decide +kernel
theorem dX9_append_31 : decode cX9_append 31 = .ok (.invokevirtual 51, 3) := by decide +kernel
theorem dX9_append_34 : decode cX9_append 34 = .ok (.aload_n 0, 1) := by decide +kernel
theorem dX9_append_35 : decode cX9_append 35 = .ok (.getfield 10, 3) := by decide +kernel
theorem dX9_append_38 : decode cX9_append 38 = .ok (.iload_n 3, 1) := by decide +kernel
theorem dX9_append_39 : decode cX9_append 39 = .ok (.invokevirtual 51, 3) := by decide +kernel
theorem dX9_append_42 : decode cX9_append 42 = .ok (.aload_n 0, 1) := by decide +kernel
theorem dX9_append_43 : decode cX9_append 43 = .ok (.getfield 10, 3) := by decide +kernel
theorem dX9_append_46 : decode cX9_append 46 = .ok (.iload 4, 2) := by decide +kernel
theorem dX9_append_48 : decode cX9_append 48 = .ok (.invokevirtual 51, 3) := by decide +kernel
theorem dX9_append_51 : decode cX9_append 51 = .ok (.aload_n 0, 1) := by decide +kernel
theorem dX9_append_52 : decode cX9_append 52 = .ok (.getfield 10, 3) := by decide +kernel
theorem dX9_append_55 : decode cX9_append 55 = .ok (.iload 5, 2) := by decide +kernel
theorem dX9_append_57 : decode cX9_append 57 = .ok (.invokevirtual 51, 3) := by decide +kernel
theorem dX9_append_60 : decode cX9_append 60 = .ok (.aload_n 0, 1) := by decide +kernel
theorem dX9_append_61 : decode cX9_append 61 = .ok (.getfield 10, 3) := by decide +kernel
theorem dX9_append_64 : decode cX9_append 64 = .ok (.getfield 48, 3) := by decide +kernel
theorem dX9_append_67 : decode cX9_append 67 = .ok (.ireturn, 1) := by decide +kernel
theorem dX9_beginWithDraft_0 : decode cX9_beginWithDraft 0 = .ok (.aload_n 0, 1) := by decide +kernel
theorem dX9_beginWithDraft_1 : decode cX9_beginWithDraft 1 = .ok (.getfield 33, 3) := by decide +kernel
theorem dX9_beginWithDraft_4 : decode cX9_beginWithDraft 4 = .ok (.astore_n 1, 1) := by decide +kernel
theorem dX9_beginWithDraft_5 : decode cX9_beginWithDraft 5 = .ok (.aload_n 0, 1) := by decide +kernel
theorem dX9_beginWithDraft_6 : decode cX9_beginWithDraft 6 = .ok (.aload_n 0, 1) := by decide +kernel
theorem dX9_beginWithDraft_7 : decode cX9_beginWithDraft 7 = .ok (.getfield 37, 3) := by decide +kernel
theorem dX9_beginWithDraft_10 : decode cX9_beginWithDraft 10 = .ok (.putfield 33, 3) := by decide +kernel
theorem dX9_beginWithDraft_13 : decode cX9_beginWithDraft 13 = .ok (.aload_n 0, 1) := by decide +kernel
theorem dX9_beginWithDraft_14 : decode cX9_beginWithDraft 14 = .ok (.aload_n 1, 1) := by decide +kernel
theorem dX9_beginWithDraft_15 : decode cX9_beginWithDraft 15 = .ok (.putfield 37, 3) := by decide +kernel
theorem dX9_beginWithDraft_18 : decode cX9_beginWithDraft 18 = .ok (.aload_n 0, 1) := by decide +kernel
theorem dX9_beginWithDraft_19 : decode cX9_beginWithDraft 19 = .ok (.getfield 19, 3) := by decide +kernel
theorem dX9_beginWithDraft_22 : decode cX9_beginWithDraft 22 = .ok (.invokevirtual 78, 3) := by decide +kernel
theorem dX9_beginWithDraft_25 : decode cX9_beginWithDraft 25 = .ok (.aload_n 0, 1) := by decide +kernel
theorem dX9_beginWithDraft_26 : decode cX9_beginWithDraft 26 = .ok (.getfield 26, 3) := by decide +kernel
theorem dX9_beginWithDraft_29 : decode cX9_beginWithDraft 29 = .ok (.invokevirtual 81, 3) := by decide +kernel
theorem dX9_beginWithDraft_32 : decode cX9_beginWithDraft 32 = .ok (.return_, 1) := by decide +kernel
theorem dX9_parse_0 : decode cX9_parse 0 = .ok (.iload_n 1, 1) := by decide +kernel
theorem dX9_parse_1 : decode cX9_parse 1 = .ok (.ifCond .lt 14, 3) := by decide +kernel
theorem dX9_parse_4 : decode cX9_parse 4 = .ok (.iload_n 1, 1) := by decide +kernel
theorem dX9_parse_5 : decode cX9_parse 5 = .ok (.aload_n 0, 1) := by decide +kernel
theorem dX9_parse_6 : decode cX9_parse 6 = .ok (.getfield 10, 3) := by decide +kernel
theorem dX9_parse_9 : decode cX9_parse 9 = .ok (.getfield 48, 3) := by decide +kernel
theorem dX9_parse_12 : decode cX9_parse 12 = .ok (.if_icmp .le 13, 3) := by decide +kernel
theorem dX9_parse_15 : decode cX9_parse 15 = .ok (.new 55, 3) := by decide +kernel
theorem dX9_parse_18 : decode cX9_parse 18 = .ok (.dup, 1) := by decide +kernel
theorem dX9_parse_19 : decode cX9_parse 19 = .ok (.ldc 57, 2) := by decide +kernel
theorem dX9_parse_21 : decode cX9_parse 21 = .ok (.invokespecial 59, 3) := by decide +kernel
theorem dX9_parse_24 : decode cX9_parse 24 = .ok (.athrow, 1) := by decide +kernel
theorem dX9_parse_25 : decode cX9_parse 25 = .ok (.new 62, 3) := by decide +kernel
theorem dX9_parse_28 : decode cX9_parse 28 = .ok (.dup, 1) := by decide +kernel
theorem dX9_parse_29 : decode cX9_parse 29 = .ok (.aload_n 0, 1) := by decide +kernel
theorem dX9_parse_30 : decode cX9_parse 30 = .ok (.getfield 10, 3) := by decide +kernel
theorem dX9_parse_33 : decode cX9_parse 33 = .ok (.iload_n 1, 1) := by decide +kernel
theorem dX9_parse_34 : decode cX9_parse 34 = .ok (.aload_n 0, 1) := by decide +kernel
theorem dX9_parse_35 : decode cX9_parse 35 = .ok (.getfield 37, 3) := by decide +kernel
theorem dX9_parse_38 : decode cX9_parse 38 = .ok (.invokespecial 64, 3) := by decide +kernel
theorem dX9_parse_41 : decode cX9_parse 41 = .ok (.astore_n 2, 1) := by decide +kernel
theorem dX9_parse_42 : decode cX9_parse 42 = .ok (.aload_n 2, 1) := by decide +kernel
theorem dX9_parse_43 : decode cX9_parse 43 = .ok (.invokevirtual 67, 3) := by decide +kernel
theorem dX9_parse_46 : decode cX9_parse 46 = .ok (.istore_n 3, 1) := by decide +kernel
theorem dX9_parse_47 : decode cX9_parse 47 = .ok (.aload_n 0, 1) := by decide +kernel
theorem dX9_parse_48 : decode cX9_parse 48 = .ok (.getfield 10, 3) := by decide +kernel
theorem dX9_parse_51 : decode cX9_parse 51 = .ok (.iconst 0, 1) := by decide +kernel
theorem dX9_parse_52 : decode cX9_parse 52 = .ok (.putfield 48, 3) := by decide +kernel
theorem dX9_parse_55 : decode cX9_parse 55 = .ok (.aload_n 0, 1) := by decide +kernel
theorem dX9_parse_56 : decode cX9_parse 56 = .ok (.aload_n 2, 1) := by decide +kernel
theorem dX9_parse_57 : decode cX9_parse 57 = .ok (.getfield 71, 3) := by decide +kernel
theorem dX9_parse_60 : decode cX9_parse 60 = .ok (.putfield 40, 3) := by decide +kernel
theorem dX9_parse_63 : decode cX9_parse 63 = .ok (.iload_n 3, 1) := by decide +kernel
theorem dX9_parse_64 : decode cX9_parse 64 = .ok (.ifCond .eq 7, 3) := by decide +kernel
theorem dX9_parse_67 : decode cX9_parse 67 = .ok (.aload_n 0, 1) := by decide +kernel
theorem dX9_parse_68 : decode cX9_parse 68 = .ok (.invokevirtual 72, 3) := by decide +kernel
theorem dX9_parse_71 : decode cX9_parse 71 = .ok (.aload_n 2, 1) := by decide +kernel
theorem dX9_parse_72 : decode cX9_parse 72 = .ok (.getfield 75, 3) := by decide +kernel
theorem dX9_parse_75 : decode cX9_parse 75 = .ok (.ireturn, 1) := by decide +kernel
theorem dX9_errorPosition_0 : decode cX9_errorPosition 0 = .ok (.aload_n 0, 1) := by decide +kernel
theorem dX9_errorPosition_1 : decode cX9_errorPosition 1 = .ok (.getfield 40, 3) := by decide +kernel
theorem dX9_errorPosition_4 : decode cX9_errorPosition 4 = .ok (.ireturn, 1) := by decide +kernel
theorem dX9_size_0 : decode cX9_size 0 = .ok (.iload_n 1, 1) := by decide +kernel
theorem dX9_size_1 : decode cX9_size 1 = .ok (.tableswitch 111 0 7 #[47, 55, 63, 71, 79, 87, 95, 103], 47) := by decide +kernel
theorem dX9_size_48 : decode cX9_size 48 = .ok (.aload_n 0, 1) := by decide +kernel
theorem dX9_size_49 : decode cX9_size 49 = .ok (.getfield 33, 3) := by decide +kernel
theorem dX9_size_52 : decode cX9_size 52 = .ok (.getfield 84, 3) := by decide +kernel
theorem dX9_size_55 : decode cX9_size 55 = .ok (.ireturn, 1) := by decide +kernel
theorem dX9_size_56 : decode cX9_size 56 = .ok (.aload_n 0, 1) := by decide +kernel
theorem dX9_size_57 : decode cX9_size 57 = .ok (.getfield 33, 3) := by decide +kernel
theorem dX9_size_60 : decode cX9_size 60 = .ok (.getfield 87, 3) := by decide +kernel
theorem dX9_size_63 : decode cX9_size 63 = .ok (.ireturn, 1) := by decide +kernel
theorem dX9_size_64 : decode cX9_size 64 = .ok (.aload_n 0, 1) := by decide +kernel
theorem dX9_size_65 : decode cX9_size 65 = .ok (.getfield 33, 3) := by decide +kernel
theorem dX9_size_68 : decode cX9_size 68 = .ok (.getfield 90, 3) := by decide +kernel
theorem dX9_size_71 : decode cX9_size 71 = .ok (.ireturn, 1) := by decide +kernel
theorem dX9_size_72 : decode cX9_size 72 = .ok (.aload_n 0, 1) := by decide +kernel
theorem dX9_size_73 : decode cX9_size 73 = .ok (.getfield 33, 3) := by decide +kernel
theorem dX9_size_76 : decode cX9_size 76 = .ok (.getfield 93, 3) := by decide +kernel
theorem dX9_size_79 : decode cX9_size 79 = .ok (.ireturn, 1) := by decide +kernel
theorem dX9_size_80 : decode cX9_size 80 = .ok (.aload_n 0, 1) := by decide +kernel
theorem dX9_size_81 : decode cX9_size 81 = .ok (.getfield 33, 3) := by decide +kernel
theorem dX9_size_84 : decode cX9_size 84 = .ok (.getfield 96, 3) := by decide +kernel
theorem dX9_size_87 : decode cX9_size 87 = .ok (.ireturn, 1) := by decide +kernel
theorem dX9_size_88 : decode cX9_size 88 = .ok (.aload_n 0, 1) := by decide +kernel
theorem dX9_size_89 : decode cX9_size 89 = .ok (.getfield 33, 3) := by decide +kernel
theorem dX9_size_92 : decode cX9_size 92 = .ok (.invokevirtual 99, 3) := by decide +kernel
theorem dX9_size_95 : decode cX9_size 95 = .ok (.ireturn, 1) := by decide +kernel
theorem dX9_size_96 : decode cX9_size 96 = .ok (.aload_n 0, 1) := by decide +kernel
theorem dX9_size_97 : decode cX9_size 97 = .ok (.getfield 33, 3) := by decide +kernel
theorem dX9_size_100 : decode cX9_size 100 = .ok (.getfield 103, 3) := by decide +kernel
theorem dX9_size_103 : decode cX9_size 103 = .ok (.ireturn, 1) := by decide +kernel
theorem dX9_size_104 : decode cX9_size 104 = .ok (.aload_n 0, 1) := by decide +kernel
theorem dX9_size_105 : decode cX9_size 105 = .ok (.getfield 19, 3) := by decide +kernel
theorem dX9_size_108 : decode cX9_size 108 = .ok (.getfield 106, 3) := by decide +kernel
theorem dX9_size_111 : decode cX9_size 111 = .ok (.ireturn, 1) := by decide +kernel
theorem dX9_size_112 : decode cX9_size 112 = .ok (.new 55, 3) := by decide +kernel
theorem dX9_size_115 : decode cX9_size 115 = .ok (.dup, 1) := by decide +kernel
theorem dX9_size_116 : decode cX9_size 116 = .ok (.ldc 109, 2) := by decide +kernel
theorem dX9_size_118 : decode cX9_size 118 = .ok (.invokespecial 59, 3) := by decide +kernel
theorem dX9_size_121 : decode cX9_size 121 = .ok (.athrow, 1) := by decide +kernel
theorem dX9_find_0 : decode cX9_find 0 = .ok (.aload_n 0, 1) := by decide +kernel
theorem dX9_find_1 : decode cX9_find 1 = .ok (.getfield 33, 3) := by decide +kernel
theorem dX9_find_4 : decode cX9_find 4 = .ok (.aload_n 0, 1) := by decide +kernel
theorem dX9_find_5 : decode cX9_find 5 = .ok (.getfield 10, 3) := by decide +kernel
theorem dX9_find_8 : decode cX9_find 8 = .ok (.iconst 0, 1) := by decide +kernel
theorem dX9_find_9 : decode cX9_find 9 = .ok (.aload_n 0, 1) := by decide +kernel
theorem dX9_find_10 : decode cX9_find 10 = .ok (.getfield 10, 3) := by decide +kernel
theorem dX9_find_13 : decode cX9_find 13 = .ok (.invokevirtual 111, 3) := by decide +kernel
theorem dX9_find_16 : decode cX9_find 16 = .ok (.invokevirtual 114, 3) := by decide +kernel
theorem dX9_find_19 : decode cX9_find 19 = .ok (.istore_n 1, 1) := by decide +kernel
theorem dX9_find_20 : decode cX9_find 20 = .ok (.aload_n 0, 1) := by decide +kernel
theorem dX9_find_21 : decode cX9_find 21 = .ok (.getfield 10, 3) := by decide +kernel
theorem dX9_find_24 : decode cX9_find 24 = .ok (.iconst 0, 1) := by decide +kernel
theorem dX9_find_25 : decode cX9_find 25 = .ok (.putfield 48, 3) := by decide +kernel
theorem dX9_find_28 : decode cX9_find 28 = .ok (.iload_n 1, 1) := by decide +kernel
theorem dX9_find_29 : decode cX9_find 29 = .ok (.ireturn, 1) := by decide +kernel
theorem dX9_marked_0 : decode cX9_marked 0 = .ok (.iload_n 1, 1) := by decide +kernel
theorem dX9_marked_1 : decode cX9_marked 1 = .ok (.ifCond .lt 26, 3) := by decide +kernel
theorem dX9_marked_4 : decode cX9_marked 4 = .ok (.iload_n 1, 1) := by decide +kernel
theorem dX9_marked_5 : decode cX9_marked 5 = .ok (.aload_n 0, 1) := by decide +kernel
theorem dX9_marked_6 : decode cX9_marked 6 = .ok (.getfield 33, 3) := by decide +kernel
theorem dX9_marked_9 : decode cX9_marked 9 = .ok (.getfield 96, 3) := by decide +kernel
theorem dX9_marked_12 : decode cX9_marked 12 = .ok (.if_icmp .ge 15, 3) := by decide +kernel
theorem dX9_marked_15 : decode cX9_marked 15 = .ok (.aload_n 0, 1) := by decide +kernel
theorem dX9_marked_16 : decode cX9_marked 16 = .ok (.getfield 33, 3) := by decide +kernel
theorem dX9_marked_19 : decode cX9_marked 19 = .ok (.getfield 118, 3) := by decide +kernel
theorem dX9_marked_22 : decode cX9_marked 22 = .ok (.iload_n 1, 1) := by decide +kernel
theorem dX9_marked_23 : decode cX9_marked 23 = .ok (.iaload, 1) := by decide +kernel
theorem dX9_marked_24 : decode cX9_marked 24 = .ok (.goto 4, 3) := by decide +kernel
theorem dX9_marked_27 : decode cX9_marked 27 = .ok (.iconst (-1), 1) := by decide +kernel
theorem dX9_marked_28 : decode cX9_marked 28 = .ok (.ireturn, 1) := by decide +kernel
theorem dX9_checkSet_0 : decode cX9_checkSet 0 = .ok (.iload_n 1, 1) := by decide +kernel
theorem dX9_checkSet_1 : decode cX9_checkSet 1 = .ok (.ifCond .lt 14, 3) := by decide +kernel
theorem dX9_checkSet_4 : decode cX9_checkSet 4 = .ok (.iload_n 1, 1) := by decide +kernel
theorem dX9_checkSet_5 : decode cX9_checkSet 5 = .ok (.aload_n 0, 1) := by decide +kernel
theorem dX9_checkSet_6 : decode cX9_checkSet 6 = .ok (.getfield 33, 3) := by decide +kernel
theorem dX9_checkSet_9 : decode cX9_checkSet 9 = .ok (.getfield 84, 3) := by decide +kernel
theorem dX9_checkSet_12 : decode cX9_checkSet 12 = .ok (.if_icmp .lt 14, 3) := by decide +kernel
theorem dX9_checkSet_15 : decode cX9_checkSet 15 = .ok (.new 320, 3) := by decide +kernel
theorem dX9_checkSet_18 : decode cX9_checkSet 18 = .ok (.dup, 1) := by decide +kernel
theorem dX9_checkSet_19 : decode cX9_checkSet 19 = .ok (.ldc_w 322, 3) := by decide +kernel
theorem dX9_checkSet_22 : decode cX9_checkSet 22 = .ok (.invokespecial 324, 3) := by decide +kernel
theorem dX9_checkSet_25 : decode cX9_checkSet 25 = .ok (.athrow, 1) := by decide +kernel
theorem dX9_checkSet_26 : decode cX9_checkSet 26 = .ok (.return_, 1) := by decide +kernel
theorem dX9_rowsOf_0 : decode cX9_rowsOf 0 = .ok (.aload_n 0, 1) := by decide +kernel
theorem dX9_rowsOf_1 : decode cX9_rowsOf 1 = .ok (.iload_n 1, 1) := by decide +kernel
theorem dX9_rowsOf_2 : decode cX9_rowsOf 2 = .ok (.invokevirtual 247, 3) := by decide +kernel
theorem dX9_rowsOf_5 : decode cX9_rowsOf 5 = .ok (.aload_n 0, 1) := by decide +kernel
theorem dX9_rowsOf_6 : decode cX9_rowsOf 6 = .ok (.getfield 33, 3) := by decide +kernel
theorem dX9_rowsOf_9 : decode cX9_rowsOf 9 = .ok (.getfield 283, 3) := by decide +kernel
theorem dX9_rowsOf_12 : decode cX9_rowsOf 12 = .ok (.iload_n 1, 1) := by decide +kernel
theorem dX9_rowsOf_13 : decode cX9_rowsOf 13 = .ok (.aaload, 1) := by decide +kernel
theorem dX9_rowsOf_14 : decode cX9_rowsOf 14 = .ok (.areturn, 1) := by decide +kernel
theorem dX9_set_0 : decode cX9_set 0 = .ok (.aload_n 0, 1) := by decide +kernel
theorem dX9_set_1 : decode cX9_set 1 = .ok (.iload_n 1, 1) := by decide +kernel
theorem dX9_set_2 : decode cX9_set 2 = .ok (.invokevirtual 122, 3) := by decide +kernel
theorem dX9_set_5 : decode cX9_set 5 = .ok (.astore_n 3, 1) := by decide +kernel
theorem dX9_set_6 : decode cX9_set 6 = .ok (.iload_n 2, 1) := by decide +kernel
theorem dX9_set_7 : decode cX9_set 7 = .ok (.tableswitch 68 0 4 #[33, 38, 43, 51, 59], 33) := by decide +kernel
theorem dX9_set_40 : decode cX9_set 40 = .ok (.aload_n 3, 1) := by decide +kernel
theorem dX9_set_41 : decode cX9_set 41 = .ok (.getfield 126, 3) := by decide +kernel
theorem dX9_set_44 : decode cX9_set 44 = .ok (.ireturn, 1) := by decide +kernel
theorem dX9_set_45 : decode cX9_set 45 = .ok (.aload_n 3, 1) := by decide +kernel
theorem dX9_set_46 : decode cX9_set 46 = .ok (.getfield 131, 3) := by decide +kernel
theorem dX9_set_49 : decode cX9_set 49 = .ok (.ireturn, 1) := by decide +kernel
theorem dX9_set_50 : decode cX9_set 50 = .ok (.aload_n 3, 1) := by decide +kernel
theorem dX9_set_51 : decode cX9_set 51 = .ok (.getfield 134, 3) := by decide +kernel
theorem dX9_set_54 : decode cX9_set 54 = .ok (.getfield 138, 3) := by decide +kernel
theorem dX9_set_57 : decode cX9_set 57 = .ok (.ireturn, 1) := by decide +kernel
theorem dX9_set_58 : decode cX9_set 58 = .ok (.aload_n 3, 1) := by decide +kernel
theorem dX9_set_59 : decode cX9_set 59 = .ok (.getfield 134, 3) := by decide +kernel
theorem dX9_set_62 : decode cX9_set 62 = .ok (.getfield 143, 3) := by decide +kernel
theorem dX9_set_65 : decode cX9_set 65 = .ok (.ireturn, 1) := by decide +kernel
theorem dX9_set_66 : decode cX9_set 66 = .ok (.aload_n 0, 1) := by decide +kernel
theorem dX9_set_67 : decode cX9_set 67 = .ok (.getfield 33, 3) := by decide +kernel
theorem dX9_set_70 : decode cX9_set 70 = .ok (.iload_n 1, 1) := by decide +kernel
theorem dX9_set_71 : decode cX9_set 71 = .ok (.invokevirtual 144, 3) := by decide +kernel
theorem dX9_set_74 : decode cX9_set 74 = .ok (.ireturn, 1) := by decide +kernel
theorem dX9_set_75 : decode cX9_set 75 = .ok (.new 55, 3) := by decide +kernel
theorem dX9_set_78 : decode cX9_set 78 = .ok (.dup, 1) := by decide +kernel
theorem dX9_set_79 : decode cX9_set 79 = .ok (.ldc 109, 2) := by decide +kernel
theorem dX9_set_81 : decode cX9_set 81 = .ok (.invokespecial 59, 3) := by decide +kernel
theorem dX9_set_84 : decode cX9_set 84 = .ok (.athrow, 1) := by decide +kernel
theorem dX9_cell_0 : decode cX9_cell 0 = .ok (.aload_n 0, 1) := by decide +kernel
theorem dX9_cell_1 : decode cX9_cell 1 = .ok (.iload_n 1, 1) := by decide +kernel
theorem dX9_cell_2 : decode cX9_cell 2 = .ok (.invokevirtual 122, 3) := by decide +kernel
theorem dX9_cell_5 : decode cX9_cell 5 = .ok (.astore 4, 2) := by decide +kernel
theorem dX9_cell_7 : decode cX9_cell 7 = .ok (.aload_n 0, 1) := by decide +kernel
theorem dX9_cell_8 : decode cX9_cell 8 = .ok (.getfield 33, 3) := by decide +kernel
theorem dX9_cell_11 : decode cX9_cell 11 = .ok (.iload_n 2, 1) := by decide +kernel
theorem dX9_cell_12 : decode cX9_cell 12 = .ok (.invokevirtual 148, 3) := by decide +kernel
theorem dX9_cell_15 : decode cX9_cell 15 = .ok (.ifCond .ne 13, 3) := by decide +kernel
theorem dX9_cell_18 : decode cX9_cell 18 = .ok (.new 55, 3) := by decide +kernel
theorem dX9_cell_21 : decode cX9_cell 21 = .ok (.dup, 1) := by decide +kernel
theorem dX9_cell_22 : decode cX9_cell 22 = .ok (.ldc 152, 2) := by decide +kernel
theorem dX9_cell_24 : decode cX9_cell 24 = .ok (.invokespecial 59, 3) := by decide +kernel
theorem dX9_cell_27 : decode cX9_cell 27 = .ok (.athrow, 1) := by decide +kernel
theorem dX9_cell_28 : decode cX9_cell 28 = .ok (.iload_n 3, 1) := by decide +kernel
theorem dX9_cell_29 : decode cX9_cell 29 = .ok (.ifCond .eq 13, 3) := by decide +kernel
theorem dX9_cell_32 : decode cX9_cell 32 = .ok (.aload 4, 2) := by decide +kernel
theorem dX9_cell_34 : decode cX9_cell 34 = .ok (.getfield 154, 3) := by decide +kernel
theorem dX9_cell_37 : decode cX9_cell 37 = .ok (.iload_n 2, 1) := by decide +kernel
theorem dX9_cell_38 : decode cX9_cell 38 = .ok (.iaload, 1) := by decide +kernel
theorem dX9_cell_39 : decode cX9_cell 39 = .ok (.goto 10, 3) := by decide +kernel
theorem dX9_cell_42 : decode cX9_cell 42 = .ok (.aload 4, 2) := by decide +kernel
theorem dX9_cell_44 : decode cX9_cell 44 = .ok (.getfield 157, 3) := by decide +kernel
theorem dX9_cell_47 : decode cX9_cell 47 = .ok (.iload_n 2, 1) := by decide +kernel
theorem dX9_cell_48 : decode cX9_cell 48 = .ok (.iaload, 1) := by decide +kernel
theorem dX9_cell_49 : decode cX9_cell 49 = .ok (.ireturn, 1) := by decide +kernel
theorem dX9_place_0 : decode cX9_place 0 = .ok (.aload_n 0, 1) := by decide +kernel
theorem dX9_place_1 : decode cX9_place 1 = .ok (.iload_n 1, 1) := by decide +kernel
theorem dX9_place_2 : decode cX9_place 2 = .ok (.invokevirtual 122, 3) := by decide +kernel
theorem dX9_place_5 : decode cX9_place 5 = .ok (.iload_n 2, 1) := by decide +kernel
theorem dX9_place_6 : decode cX9_place 6 = .ok (.invokevirtual 160, 3) := by decide +kernel
theorem dX9_place_9 : decode cX9_place 9 = .ok (.ireturn, 1) := by decide +kernel
theorem dX9_stampOf_0 : decode cX9_stampOf 0 = .ok (.aload_n 0, 1) := by decide +kernel
theorem dX9_stampOf_1 : decode cX9_stampOf 1 = .ok (.iload_n 1, 1) := by decide +kernel
theorem dX9_stampOf_2 : decode cX9_stampOf 2 = .ok (.invokevirtual 122, 3) := by decide +kernel
theorem dX9_stampOf_5 : decode cX9_stampOf 5 = .ok (.astore_n 3, 1) := by decide +kernel
theorem dX9_stampOf_6 : decode cX9_stampOf 6 = .ok (.aload_n 3, 1) := by decide +kernel
theorem dX9_stampOf_7 : decode cX9_stampOf 7 = .ok (.iload_n 2, 1) := by decide +kernel
theorem dX9_stampOf_8 : decode cX9_stampOf 8 = .ok (.invokevirtual 163, 3) := by decide +kernel
theorem dX9_stampOf_11 : decode cX9_stampOf 11 = .ok (.ifCond .eq 12, 3) := by decide +kernel
theorem dX9_stampOf_14 : decode cX9_stampOf 14 = .ok (.aload_n 3, 1) := by decide +kernel
theorem dX9_stampOf_15 : decode cX9_stampOf 15 = .ok (.getfield 166, 3) := by decide +kernel
theorem dX9_stampOf_18 : decode cX9_stampOf 18 = .ok (.iload_n 2, 1) := by decide +kernel
theorem dX9_stampOf_19 : decode cX9_stampOf 19 = .ok (.iaload, 1) := by decide +kernel
theorem dX9_stampOf_20 : decode cX9_stampOf 20 = .ok (.goto 4, 3) := by decide +kernel
theorem dX9_stampOf_23 : decode cX9_stampOf 23 = .ok (.iconst (-1), 1) := by decide +kernel
theorem dX9_stampOf_24 : decode cX9_stampOf 24 = .ok (.ireturn, 1) := by decide +kernel
theorem dX9_event_0 : decode cX9_event 0 = .ok (.aload_n 0, 1) := by decide +kernel
theorem dX9_event_1 : decode cX9_event 1 = .ok (.iload_n 1, 1) := by decide +kernel
theorem dX9_event_2 : decode cX9_event 2 = .ok (.invokevirtual 122, 3) := by decide +kernel
theorem dX9_event_5 : decode cX9_event 5 = .ok (.getfield 134, 3) := by decide +kernel
theorem dX9_event_8 : decode cX9_event 8 = .ok (.astore 4, 2) := by decide +kernel
theorem dX9_event_10 : decode cX9_event 10 = .ok (.iload_n 3, 1) := by decide +kernel
theorem dX9_event_11 : decode cX9_event 11 = .ok (.ifCond .lt 8, 3) := by decide +kernel
theorem dX9_event_14 : decode cX9_event 14 = .ok (.iload_n 3, 1) := by decide +kernel
theorem dX9_event_15 : decode cX9_event 15 = .ok (.iconst 2, 1) := by decide +kernel
theorem dX9_event_16 : decode cX9_event 16 = .ok (.if_icmp .le 13, 3) := by decide +kernel
theorem dX9_event_19 : decode cX9_event 19 = .ok (.new 55, 3) := by decide +kernel
theorem dX9_event_22 : decode cX9_event 22 = .ok (.dup, 1) := by decide +kernel
theorem dX9_event_23 : decode cX9_event 23 = .ok (.ldc 169, 2) := by decide +kernel
theorem dX9_event_25 : decode cX9_event 25 = .ok (.invokespecial 59, 3) := by decide +kernel
theorem dX9_event_28 : decode cX9_event 28 = .ok (.athrow, 1) := by decide +kernel
theorem dX9_event_29 : decode cX9_event 29 = .ok (.iload_n 2, 1) := by decide +kernel
theorem dX9_event_30 : decode cX9_event 30 = .ok (.ifCond .lt 12, 3) := by decide +kernel
theorem dX9_event_33 : decode cX9_event 33 = .ok (.iload_n 2, 1) := by decide +kernel
theorem dX9_event_34 : decode cX9_event 34 = .ok (.aload 4, 2) := by decide +kernel
theorem dX9_event_36 : decode cX9_event 36 = .ok (.getfield 143, 3) := by decide +kernel
theorem dX9_event_39 : decode cX9_event 39 = .ok (.if_icmp .lt 5, 3) := by decide +kernel
theorem dX9_event_42 : decode cX9_event 42 = .ok (.iconst (-1), 1) := by decide +kernel
theorem dX9_event_43 : decode cX9_event 43 = .ok (.ireturn, 1) := by decide +kernel
theorem dX9_event_44 : decode cX9_event 44 = .ok (.iload_n 3, 1) := by decide +kernel
theorem dX9_event_45 : decode cX9_event 45 = .ok (.ifCond .ne 11, 3) := by decide +kernel
theorem dX9_event_48 : decode cX9_event 48 = .ok (.aload 4, 2) := by decide +kernel
theorem dX9_event_50 : decode cX9_event 50 = .ok (.getfield 171, 3) := by decide +kernel
theorem dX9_event_53 : decode cX9_event 53 = .ok (.iload_n 2, 1) := by decide +kernel
theorem dX9_event_54 : decode cX9_event 54 = .ok (.iaload, 1) := by decide +kernel
theorem dX9_event_55 : decode cX9_event 55 = .ok (.ireturn, 1) := by decide +kernel
theorem dX9_event_56 : decode cX9_event 56 = .ok (.iload_n 3, 1) := by decide +kernel
theorem dX9_event_57 : decode cX9_event 57 = .ok (.iconst 1, 1) := by decide +kernel
theorem dX9_event_58 : decode cX9_event 58 = .ok (.if_icmp .ne 13, 3) := by decide +kernel
theorem dX9_event_61 : decode cX9_event 61 = .ok (.aload 4, 2) := by decide +kernel
theorem dX9_event_63 : decode cX9_event 63 = .ok (.getfield 172, 3) := by decide +kernel
theorem dX9_event_66 : decode cX9_event 66 = .ok (.iload_n 2, 1) := by decide +kernel
theorem dX9_event_67 : decode cX9_event 67 = .ok (.iaload, 1) := by decide +kernel
theorem dX9_event_68 : decode cX9_event 68 = .ok (.goto 10, 3) := by decide +kernel
theorem dX9_event_71 : decode cX9_event 71 = .ok (.aload 4, 2) := by decide +kernel
theorem dX9_event_73 : decode cX9_event 73 = .ok (.getfield 175, 3) := by decide +kernel
theorem dX9_event_76 : decode cX9_event 76 = .ok (.iload_n 2, 1) := by decide +kernel
theorem dX9_event_77 : decode cX9_event 77 = .ok (.iaload, 1) := by decide +kernel
theorem dX9_event_78 : decode cX9_event 78 = .ok (.ireturn, 1) := by decide +kernel
theorem dX9_checkStamp_0 : decode cX9_checkStamp 0 = .ok (.iload_n 2, 1) := by decide +kernel
theorem dX9_checkStamp_1 : decode cX9_checkStamp 1 = .ok (.aload_n 1, 1) := by decide +kernel
theorem dX9_checkStamp_2 : decode cX9_checkStamp 2 = .ok (.getfield 138, 3) := by decide +kernel
theorem dX9_checkStamp_5 : decode cX9_checkStamp 5 = .ok (.if_icmp .lt 14, 3) := by decide +kernel
theorem dX9_checkStamp_8 : decode cX9_checkStamp 8 = .ok (.iload_n 2, 1) := by decide +kernel
theorem dX9_checkStamp_9 : decode cX9_checkStamp 9 = .ok (.aload_n 0, 1) := by decide +kernel
theorem dX9_checkStamp_10 : decode cX9_checkStamp 10 = .ok (.getfield 33, 3) := by decide +kernel
theorem dX9_checkStamp_13 : decode cX9_checkStamp 13 = .ok (.getfield 93, 3) := by decide +kernel
theorem dX9_checkStamp_16 : decode cX9_checkStamp 16 = .ok (.if_icmp .le 14, 3) := by decide +kernel
theorem dX9_checkStamp_19 : decode cX9_checkStamp 19 = .ok (.new 55, 3) := by decide +kernel
theorem dX9_checkStamp_22 : decode cX9_checkStamp 22 = .ok (.dup, 1) := by decide +kernel
theorem dX9_checkStamp_23 : decode cX9_checkStamp 23 = .ok (.ldc_w 329, 3) := by decide +kernel
theorem dX9_checkStamp_26 : decode cX9_checkStamp 26 = .ok (.invokespecial 59, 3) := by decide +kernel
theorem dX9_checkStamp_29 : decode cX9_checkStamp 29 = .ok (.athrow, 1) := by decide +kernel
theorem dX9_checkStamp_30 : decode cX9_checkStamp 30 = .ok (.return_, 1) := by decide +kernel
theorem dX9_at_0 : decode cX9_at 0 = .ok (.aload_n 0, 1) := by decide +kernel
theorem dX9_at_1 : decode cX9_at 1 = .ok (.iload_n 1, 1) := by decide +kernel
theorem dX9_at_2 : decode cX9_at 2 = .ok (.invokevirtual 122, 3) := by decide +kernel
theorem dX9_at_5 : decode cX9_at 5 = .ok (.getfield 134, 3) := by decide +kernel
theorem dX9_at_8 : decode cX9_at 8 = .ok (.astore_n 3, 1) := by decide +kernel
theorem dX9_at_9 : decode cX9_at 9 = .ok (.aload_n 0, 1) := by decide +kernel
theorem dX9_at_10 : decode cX9_at 10 = .ok (.aload_n 3, 1) := by decide +kernel
theorem dX9_at_11 : decode cX9_at 11 = .ok (.iload_n 2, 1) := by decide +kernel
theorem dX9_at_12 : decode cX9_at 12 = .ok (.invokevirtual 178, 3) := by decide +kernel
theorem dX9_at_15 : decode cX9_at 15 = .ok (.aload_n 3, 1) := by decide +kernel
theorem dX9_at_16 : decode cX9_at 16 = .ok (.iload_n 2, 1) := by decide +kernel
theorem dX9_at_17 : decode cX9_at 17 = .ok (.invokevirtual 182, 3) := by decide +kernel
theorem dX9_at_20 : decode cX9_at 20 = .ok (.lreturn, 1) := by decide +kernel
theorem dX9_differs_0 : decode cX9_differs 0 = .ok (.aload_n 0, 1) := by decide +kernel
theorem dX9_differs_1 : decode cX9_differs 1 = .ok (.iload_n 1, 1) := by decide +kernel
theorem dX9_differs_2 : decode cX9_differs 2 = .ok (.invokevirtual 122, 3) := by decide +kernel
theorem dX9_differs_5 : decode cX9_differs 5 = .ok (.getfield 134, 3) := by decide +kernel
theorem dX9_differs_8 : decode cX9_differs 8 = .ok (.astore 5, 2) := by decide +kernel
theorem dX9_differs_10 : decode cX9_differs 10 = .ok (.aload_n 0, 1) := by decide +kernel
theorem dX9_differs_11 : decode cX9_differs 11 = .ok (.aload 5, 2) := by decide +kernel
theorem dX9_differs_13 : decode cX9_differs 13 = .ok (.iload_n 2, 1) := by decide +kernel
theorem dX9_differs_14 : decode cX9_differs 14 = .ok (.invokevirtual 178, 3) := by decide +kernel
theorem dX9_differs_17 : decode cX9_differs 17 = .ok (.aload_n 0, 1) := by decide +kernel
theorem dX9_differs_18 : decode cX9_differs 18 = .ok (.aload 5, 2) := by decide +kernel
theorem dX9_differs_20 : decode cX9_differs 20 = .ok (.iload_n 3, 1) := by decide +kernel
theorem dX9_differs_21 : decode cX9_differs 21 = .ok (.invokevirtual 178, 3) := by decide +kernel
theorem dX9_differs_24 : decode cX9_differs 24 = .ok (.aload 5, 2) := by decide +kernel
theorem dX9_differs_26 : decode cX9_differs 26 = .ok (.iload_n 2, 1) := by decide +kernel
theorem dX9_differs_27 : decode cX9_differs 27 = .ok (.invokevirtual 182, 3) := by decide +kernel
theorem dX9_differs_30 : decode cX9_differs 30 = .ok (.lstore 6, 2) := by decide +kernel
theorem dX9_differs_32 : decode cX9_differs 32 = .ok (.aload 5, 2) := by decide +kernel
theorem dX9_differs_34 : decode cX9_differs 34 = .ok (.iload_n 3, 1) := by decide +kernel
theorem dX9_differs_35 : decode cX9_differs 35 = .ok (.invokevirtual 182, 3) := by decide +kernel
theorem dX9_differs_38 : decode cX9_differs 38 = .ok (.lstore 8, 2) := by decide +kernel
theorem dX9_differs_40 : decode cX9_differs 40 = .ok (.iload 4, 2) := by decide +kernel
theorem dX9_differs_42 : decode cX9_differs 42 = .ok (.ifCond .eq 15, 3) := by decide +kernel
theorem dX9_differs_45 : decode cX9_differs 45 = .ok (.lload 8, 2) := by decide +kernel
theorem dX9_differs_47 : decode cX9_differs 47 = .ok (.lload 6, 2) := by decide +kernel
theorem dX9_differs_49 : decode cX9_differs 49 = .ok (.ldc2_w 186, 3) := by decide +kernel
theorem dX9_differs_52 : decode cX9_differs 52 = .ok (.lxor, 1) := by decide +kernel
theorem dX9_differs_53 : decode cX9_differs 53 = .ok (.land, 1) := by decide +kernel
theorem dX9_differs_54 : decode cX9_differs 54 = .ok (.goto 12, 3) := by decide +kernel
theorem dX9_differs_57 : decode cX9_differs 57 = .ok (.lload 6, 2) := by decide +kernel
theorem dX9_differs_59 : decode cX9_differs 59 = .ok (.lload 8, 2) := by decide +kernel
theorem dX9_differs_61 : decode cX9_differs 61 = .ok (.ldc2_w 186, 3) := by decide +kernel
theorem dX9_differs_64 : decode cX9_differs 64 = .ok (.lxor, 1) := by decide +kernel
theorem dX9_differs_65 : decode cX9_differs 65 = .ok (.land, 1) := by decide +kernel
theorem dX9_differs_66 : decode cX9_differs 66 = .ok (.invokestatic 188, 3) := by decide +kernel
theorem dX9_differs_69 : decode cX9_differs 69 = .ok (.ireturn, 1) := by decide +kernel
theorem dX9_checkNumber_0 : decode cX9_checkNumber 0 = .ok (.aload_n 0, 1) := by decide +kernel
theorem dX9_checkNumber_1 : decode cX9_checkNumber 1 = .ok (.getfield 33, 3) := by decide +kernel
theorem dX9_checkNumber_4 : decode cX9_checkNumber 4 = .ok (.iload_n 1, 1) := by decide +kernel
theorem dX9_checkNumber_5 : decode cX9_checkNumber 5 = .ok (.invokevirtual 148, 3) := by decide +kernel
theorem dX9_checkNumber_8 : decode cX9_checkNumber 8 = .ok (.ifCond .ne 14, 3) := by decide +kernel
theorem dX9_checkNumber_11 : decode cX9_checkNumber 11 = .ok (.new 55, 3) := by decide +kernel
theorem dX9_checkNumber_14 : decode cX9_checkNumber 14 = .ok (.dup, 1) := by decide +kernel
theorem dX9_checkNumber_15 : decode cX9_checkNumber 15 = .ok (.ldc_w 327, 3) := by decide +kernel
theorem dX9_checkNumber_18 : decode cX9_checkNumber 18 = .ok (.invokespecial 59, 3) := by decide +kernel
theorem dX9_checkNumber_21 : decode cX9_checkNumber 21 = .ok (.athrow, 1) := by decide +kernel
theorem dX9_checkNumber_22 : decode cX9_checkNumber 22 = .ok (.return_, 1) := by decide +kernel
theorem dX9_since_0 : decode cX9_since 0 = .ok (.aload_n 0, 1) := by decide +kernel
theorem dX9_since_1 : decode cX9_since 1 = .ok (.iload_n 1, 1) := by decide +kernel
theorem dX9_since_2 : decode cX9_since 2 = .ok (.invokevirtual 122, 3) := by decide +kernel
theorem dX9_since_5 : decode cX9_since 5 = .ok (.getfield 134, 3) := by decide +kernel
theorem dX9_since_8 : decode cX9_since 8 = .ok (.astore_n 3, 1) := by decide +kernel
theorem dX9_since_9 : decode cX9_since 9 = .ok (.aload_n 0, 1) := by decide +kernel
theorem dX9_since_10 : decode cX9_since 10 = .ok (.iload_n 2, 1) := by decide +kernel
theorem dX9_since_11 : decode cX9_since 11 = .ok (.invokevirtual 194, 3) := by decide +kernel
theorem dX9_since_14 : decode cX9_since 14 = .ok (.aload_n 3, 1) := by decide +kernel
theorem dX9_since_15 : decode cX9_since 15 = .ok (.iload_n 2, 1) := by decide +kernel
theorem dX9_since_16 : decode cX9_since 16 = .ok (.invokevirtual 197, 3) := by decide +kernel
theorem dX9_since_19 : decode cX9_since 19 = .ok (.ireturn, 1) := by decide +kernel
theorem dX9_fullest_0 : decode cX9_fullest 0 = .ok (.aload_n 0, 1) := by decide +kernel
theorem dX9_fullest_1 : decode cX9_fullest 1 = .ok (.iload_n 1, 1) := by decide +kernel
theorem dX9_fullest_2 : decode cX9_fullest 2 = .ok (.invokevirtual 122, 3) := by decide +kernel
theorem dX9_fullest_5 : decode cX9_fullest 5 = .ok (.getfield 134, 3) := by decide +kernel
theorem dX9_fullest_8 : decode cX9_fullest 8 = .ok (.invokevirtual 200, 3) := by decide +kernel
theorem dX9_fullest_11 : decode cX9_fullest 11 = .ok (.ireturn, 1) := by decide +kernel
theorem dX9_cursorOf_0 : decode cX9_cursorOf 0 = .ok (.iload_n 1, 1) := by decide +kernel
theorem dX9_cursorOf_1 : decode cX9_cursorOf 1 = .ok (.ifCond .lt 24, 3) := by decide +kernel
theorem dX9_cursorOf_4 : decode cX9_cursorOf 4 = .ok (.iload_n 1, 1) := by decide +kernel
theorem dX9_cursorOf_5 : decode cX9_cursorOf 5 = .ok (.bipush 6, 2) := by decide +kernel
theorem dX9_cursorOf_7 : decode cX9_cursorOf 7 = .ok (.if_icmp .ge 18, 3) := by decide +kernel
theorem dX9_cursorOf_10 : decode cX9_cursorOf 10 = .ok (.aload_n 0, 1) := by decide +kernel
theorem dX9_cursorOf_11 : decode cX9_cursorOf 11 = .ok (.getfield 33, 3) := by decide +kernel
theorem dX9_cursorOf_14 : decode cX9_cursorOf 14 = .ok (.getfield 270, 3) := by decide +kernel
theorem dX9_cursorOf_17 : decode cX9_cursorOf 17 = .ok (.iload_n 1, 1) := by decide +kernel
theorem dX9_cursorOf_18 : decode cX9_cursorOf 18 = .ok (.aaload, 1) := by decide +kernel
theorem dX9_cursorOf_19 : decode cX9_cursorOf 19 = .ok (.getfield 277, 3) := by decide +kernel
theorem dX9_cursorOf_22 : decode cX9_cursorOf 22 = .ok (.ifCond .ne 14, 3) := by decide +kernel
theorem dX9_cursorOf_25 : decode cX9_cursorOf 25 = .ok (.new 320, 3) := by decide +kernel
theorem dX9_cursorOf_28 : decode cX9_cursorOf 28 = .ok (.dup, 1) := by decide +kernel
theorem dX9_cursorOf_29 : decode cX9_cursorOf 29 = .ok (.ldc_w 325, 3) := by decide +kernel
theorem dX9_cursorOf_32 : decode cX9_cursorOf 32 = .ok (.invokespecial 324, 3) := by decide +kernel
theorem dX9_cursorOf_35 : decode cX9_cursorOf 35 = .ok (.athrow, 1) := by decide +kernel
theorem dX9_cursorOf_36 : decode cX9_cursorOf 36 = .ok (.aload_n 0, 1) := by decide +kernel
theorem dX9_cursorOf_37 : decode cX9_cursorOf 37 = .ok (.getfield 33, 3) := by decide +kernel
theorem dX9_cursorOf_40 : decode cX9_cursorOf 40 = .ok (.getfield 270, 3) := by decide +kernel
theorem dX9_cursorOf_43 : decode cX9_cursorOf 43 = .ok (.iload_n 1, 1) := by decide +kernel
theorem dX9_cursorOf_44 : decode cX9_cursorOf 44 = .ok (.aaload, 1) := by decide +kernel
theorem dX9_cursorOf_45 : decode cX9_cursorOf 45 = .ok (.areturn, 1) := by decide +kernel
theorem dX9_cursor_0 : decode cX9_cursor 0 = .ok (.aload_n 0, 1) := by decide +kernel
theorem dX9_cursor_1 : decode cX9_cursor 1 = .ok (.iload_n 1, 1) := by decide +kernel
theorem dX9_cursor_2 : decode cX9_cursor 2 = .ok (.invokevirtual 203, 3) := by decide +kernel
theorem dX9_cursor_5 : decode cX9_cursor 5 = .ok (.astore_n 3, 1) := by decide +kernel
theorem dX9_cursor_6 : decode cX9_cursor 6 = .ok (.iload_n 2, 1) := by decide +kernel
theorem dX9_cursor_7 : decode cX9_cursor 7 = .ok (.tableswitch 92 0 6 #[41, 46, 51, 64, 77, 82, 87], 41) := by decide +kernel
theorem dX9_cursor_48 : decode cX9_cursor 48 = .ok (.aload_n 3, 1) := by decide +kernel
theorem dX9_cursor_49 : decode cX9_cursor 49 = .ok (.getfield 207, 3) := by decide +kernel
theorem dX9_cursor_52 : decode cX9_cursor 52 = .ok (.ireturn, 1) := by decide +kernel
theorem dX9_cursor_53 : decode cX9_cursor 53 = .ok (.aload_n 3, 1) := by decide +kernel
theorem dX9_cursor_54 : decode cX9_cursor 54 = .ok (.getfield 212, 3) := by decide +kernel
theorem dX9_cursor_57 : decode cX9_cursor 57 = .ok (.ireturn, 1) := by decide +kernel
theorem dX9_cursor_58 : decode cX9_cursor 58 = .ok (.aload_n 3, 1) := by decide +kernel
theorem dX9_cursor_59 : decode cX9_cursor 59 = .ok (.getfield 215, 3) := by decide +kernel
theorem dX9_cursor_62 : decode cX9_cursor 62 = .ok (.ifCond .eq 7, 3) := by decide +kernel
theorem dX9_cursor_65 : decode cX9_cursor 65 = .ok (.iconst 1, 1) := by decide +kernel
theorem dX9_cursor_66 : decode cX9_cursor 66 = .ok (.goto 4, 3) := by decide +kernel
theorem dX9_cursor_69 : decode cX9_cursor 69 = .ok (.iconst 0, 1) := by decide +kernel
theorem dX9_cursor_70 : decode cX9_cursor 70 = .ok (.ireturn, 1) := by decide +kernel
theorem dX9_cursor_71 : decode cX9_cursor 71 = .ok (.aload_n 3, 1) := by decide +kernel
theorem dX9_cursor_72 : decode cX9_cursor 72 = .ok (.getfield 219, 3) := by decide +kernel
theorem dX9_cursor_75 : decode cX9_cursor 75 = .ok (.ifCond .eq 7, 3) := by decide +kernel
theorem dX9_cursor_78 : decode cX9_cursor 78 = .ok (.iconst 1, 1) := by decide +kernel
theorem dX9_cursor_79 : decode cX9_cursor 79 = .ok (.goto 4, 3) := by decide +kernel
theorem dX9_cursor_82 : decode cX9_cursor 82 = .ok (.iconst 0, 1) := by decide +kernel
theorem dX9_cursor_83 : decode cX9_cursor 83 = .ok (.ireturn, 1) := by decide +kernel
theorem dX9_cursor_84 : decode cX9_cursor 84 = .ok (.aload_n 3, 1) := by decide +kernel
theorem dX9_cursor_85 : decode cX9_cursor 85 = .ok (.getfield 222, 3) := by decide +kernel
theorem dX9_cursor_88 : decode cX9_cursor 88 = .ok (.ireturn, 1) := by decide +kernel
theorem dX9_cursor_89 : decode cX9_cursor 89 = .ok (.aload_n 3, 1) := by decide +kernel
theorem dX9_cursor_90 : decode cX9_cursor 90 = .ok (.getfield 225, 3) := by decide +kernel
theorem dX9_cursor_93 : decode cX9_cursor 93 = .ok (.ireturn, 1) := by decide +kernel
theorem dX9_cursor_94 : decode cX9_cursor 94 = .ok (.aload_n 3, 1) := by decide +kernel
theorem dX9_cursor_95 : decode cX9_cursor 95 = .ok (.getfield 228, 3) := by decide +kernel
theorem dX9_cursor_98 : decode cX9_cursor 98 = .ok (.ireturn, 1) := by decide +kernel
theorem dX9_cursor_99 : decode cX9_cursor 99 = .ok (.new 55, 3) := by decide +kernel
theorem dX9_cursor_102 : decode cX9_cursor 102 = .ok (.dup, 1) := by decide +kernel
theorem dX9_cursor_103 : decode cX9_cursor 103 = .ok (.ldc 109, 2) := by decide +kernel
theorem dX9_cursor_105 : decode cX9_cursor 105 = .ok (.invokespecial 59, 3) := by decide +kernel
theorem dX9_cursor_108 : decode cX9_cursor 108 = .ok (.athrow, 1) := by decide +kernel
theorem dX9_ahead_0 : decode cX9_ahead 0 = .ok (.aload_n 0, 1) := by decide +kernel
theorem dX9_ahead_1 : decode cX9_ahead 1 = .ok (.getfield 33, 3) := by decide +kernel
theorem dX9_ahead_4 : decode cX9_ahead 4 = .ok (.aload_n 0, 1) := by decide +kernel
theorem dX9_ahead_5 : decode cX9_ahead 5 = .ok (.iload_n 1, 1) := by decide +kernel
theorem dX9_ahead_6 : decode cX9_ahead 6 = .ok (.invokevirtual 203, 3) := by decide +kernel
theorem dX9_ahead_9 : decode cX9_ahead 9 = .ok (.invokevirtual 231, 3) := by decide +kernel
theorem dX9_ahead_12 : decode cX9_ahead 12 = .ok (.ireturn, 1) := by decide +kernel
theorem dX9_common_0 : decode cX9_common 0 = .ok (.aload_n 0, 1) := by decide +kernel
theorem dX9_common_1 : decode cX9_common 1 = .ok (.iload_n 1, 1) := by decide +kernel
theorem dX9_common_2 : decode cX9_common 2 = .ok (.invokevirtual 122, 3) := by decide +kernel
theorem dX9_common_5 : decode cX9_common 5 = .ok (.invokevirtual 235, 3) := by decide +kernel
theorem dX9_common_8 : decode cX9_common 8 = .ok (.lstore_n 3, 1) := by decide +kernel
theorem dX9_common_9 : decode cX9_common 9 = .ok (.lload_n 3, 1) := by decide +kernel
theorem dX9_common_10 : decode cX9_common 10 = .ok (.aload_n 0, 1) := by decide +kernel
theorem dX9_common_11 : decode cX9_common 11 = .ok (.iload_n 2, 1) := by decide +kernel
theorem dX9_common_12 : decode cX9_common 12 = .ok (.invokevirtual 122, 3) := by decide +kernel
theorem dX9_common_15 : decode cX9_common 15 = .ok (.invokevirtual 235, 3) := by decide +kernel
theorem dX9_common_18 : decode cX9_common 18 = .ok (.land, 1) := by decide +kernel
theorem dX9_common_19 : decode cX9_common 19 = .ok (.invokestatic 188, 3) := by decide +kernel
theorem dX9_common_22 : decode cX9_common 22 = .ok (.ireturn, 1) := by decide +kernel
theorem dX9_isWithin_0 : decode cX9_isWithin 0 = .ok (.aload_n 0, 1) := by decide +kernel
theorem dX9_isWithin_1 : decode cX9_isWithin 1 = .ok (.iload_n 1, 1) := by decide +kernel
theorem dX9_isWithin_2 : decode cX9_isWithin 2 = .ok (.invokevirtual 122, 3) := by decide +kernel
theorem dX9_isWithin_5 : decode cX9_isWithin 5 = .ok (.invokevirtual 235, 3) := by decide +kernel
theorem dX9_isWithin_8 : decode cX9_isWithin 8 = .ok (.lstore_n 3, 1) := by decide +kernel
theorem dX9_isWithin_9 : decode cX9_isWithin 9 = .ok (.lload_n 3, 1) := by decide +kernel
theorem dX9_isWithin_10 : decode cX9_isWithin 10 = .ok (.aload_n 0, 1) := by decide +kernel
theorem dX9_isWithin_11 : decode cX9_isWithin 11 = .ok (.iload_n 2, 1) := by decide +kernel
theorem dX9_isWithin_12 : decode cX9_isWithin 12 = .ok (.invokevirtual 122, 3) := by decide +kernel
theorem dX9_isWithin_15 : decode cX9_isWithin 15 = .ok (.invokevirtual 235, 3) := by decide +kernel
theorem dX9_isWithin_18 : decode cX9_isWithin 18 = .ok (.ldc2_w 186, 3) := by decide +kernel
theorem dX9_isWithin_21 : decode cX9_isWithin 21 = .ok (.lxor, 1) := by decide +kernel
theorem dX9_isWithin_22 : decode cX9_isWithin 22 = .ok (.land, 1) := by decide +kernel
theorem dX9_isWithin_23 : decode cX9_isWithin 23 = .ok (.lconst 0, 1) := by decide +kernel
theorem dX9_isWithin_24 : decode cX9_isWithin 24 = .ok (.lcmp, 1) := by decide +kernel
theorem dX9_isWithin_25 : decode cX9_isWithin 25 = .ok (.ifCond .ne 7, 3) := by decide +kernel
theorem dX9_isWithin_28 : decode cX9_isWithin 28 = .ok (.iconst 1, 1) := by decide +kernel
theorem dX9_isWithin_29 : decode cX9_isWithin 29 = .ok (.goto 4, 3) := by decide +kernel
theorem dX9_isWithin_32 : decode cX9_isWithin 32 = .ok (.iconst 0, 1) := by decide +kernel
theorem dX9_isWithin_33 : decode cX9_isWithin 33 = .ok (.ireturn, 1) := by decide +kernel
theorem dX9_likeness_0 : decode cX9_likeness 0 = .ok (.aload_n 0, 1) := by decide +kernel
theorem dX9_likeness_1 : decode cX9_likeness 1 = .ok (.iload_n 1, 1) := by decide +kernel
theorem dX9_likeness_2 : decode cX9_likeness 2 = .ok (.invokevirtual 122, 3) := by decide +kernel
theorem dX9_likeness_5 : decode cX9_likeness 5 = .ok (.invokevirtual 235, 3) := by decide +kernel
theorem dX9_likeness_8 : decode cX9_likeness 8 = .ok (.lstore_n 3, 1) := by decide +kernel
theorem dX9_likeness_9 : decode cX9_likeness 9 = .ok (.aload_n 0, 1) := by decide +kernel
theorem dX9_likeness_10 : decode cX9_likeness 10 = .ok (.iload_n 2, 1) := by decide +kernel
theorem dX9_likeness_11 : decode cX9_likeness 11 = .ok (.invokevirtual 122, 3) := by decide +kernel
theorem dX9_likeness_14 : decode cX9_likeness 14 = .ok (.invokevirtual 235, 3) := by decide +kernel
theorem dX9_likeness_17 : decode cX9_likeness 17 = .ok (.lstore 5, 2) := by decide +kernel
theorem dX9_likeness_19 : decode cX9_likeness 19 = .ok (.lload_n 3, 1) := by decide +kernel
theorem dX9_likeness_20 : decode cX9_likeness 20 = .ok (.lload 5, 2) := by decide +kernel
theorem dX9_likeness_22 : decode cX9_likeness 22 = .ok (.lor, 1) := by decide +kernel
theorem dX9_likeness_23 : decode cX9_likeness 23 = .ok (.invokestatic 188, 3) := by decide +kernel
theorem dX9_likeness_26 : decode cX9_likeness 26 = .ok (.istore 7, 2) := by decide +kernel
theorem dX9_likeness_28 : decode cX9_likeness 28 = .ok (.iload 7, 2) := by decide +kernel
theorem dX9_likeness_30 : decode cX9_likeness 30 = .ok (.ifCond .ne 5, 3) := by decide +kernel
theorem dX9_likeness_33 : decode cX9_likeness 33 = .ok (.dconst 1, 1) := by decide +kernel
theorem dX9_likeness_34 : decode cX9_likeness 34 = .ok (.dreturn, 1) := by decide +kernel
theorem dX9_likeness_35 : decode cX9_likeness 35 = .ok (.lload_n 3, 1) := by decide +kernel
theorem dX9_likeness_36 : decode cX9_likeness 36 = .ok (.lload 5, 2) := by decide +kernel
theorem dX9_likeness_38 : decode cX9_likeness 38 = .ok (.land, 1) := by decide +kernel
theorem dX9_likeness_39 : decode cX9_likeness 39 = .ok (.invokestatic 188, 3) := by decide +kernel
theorem dX9_likeness_42 : decode cX9_likeness 42 = .ok (.i2d, 1) := by decide +kernel
theorem dX9_likeness_43 : decode cX9_likeness 43 = .ok (.iload 7, 2) := by decide +kernel
theorem dX9_likeness_45 : decode cX9_likeness 45 = .ok (.i2d, 1) := by decide +kernel
theorem dX9_likeness_46 : decode cX9_likeness 46 = .ok (.ddiv, 1) := by decide +kernel
theorem dX9_likeness_47 : decode cX9_likeness 47 = .ok (.dreturn, 1) := by decide +kernel
theorem dX9_add_0 : decode cX9_add 0 = .ok (.aload_n 0, 1) := by decide +kernel
theorem dX9_add_1 : decode cX9_add 1 = .ok (.iload_n 1, 1) := by decide +kernel
theorem dX9_add_2 : decode cX9_add 2 = .ok (.invokevirtual 122, 3) := by decide +kernel
theorem dX9_add_5 : decode cX9_add 5 = .ok (.astore_n 3, 1) := by decide +kernel
theorem dX9_add_6 : decode cX9_add 6 = .ok (.aload_n 0, 1) := by decide +kernel
theorem dX9_add_7 : decode cX9_add 7 = .ok (.iload_n 2, 1) := by decide +kernel
theorem dX9_add_8 : decode cX9_add 8 = .ok (.invokevirtual 194, 3) := by decide +kernel
theorem dX9_add_11 : decode cX9_add 11 = .ok (.aload_n 0, 1) := by decide +kernel
theorem dX9_add_12 : decode cX9_add 12 = .ok (.getfield 19, 3) := by decide +kernel
theorem dX9_add_15 : decode cX9_add 15 = .ok (.aload_n 0, 1) := by decide +kernel
theorem dX9_add_16 : decode cX9_add 16 = .ok (.getfield 33, 3) := by decide +kernel
theorem dX9_add_19 : decode cX9_add 19 = .ok (.invokevirtual 239, 3) := by decide +kernel
theorem dX9_add_22 : decode cX9_add 22 = .ok (.aload_n 0, 1) := by decide +kernel
theorem dX9_add_23 : decode cX9_add 23 = .ok (.getfield 33, 3) := by decide +kernel
theorem dX9_add_26 : decode cX9_add 26 = .ok (.aload_n 3, 1) := by decide +kernel
theorem dX9_add_27 : decode cX9_add 27 = .ok (.iload_n 2, 1) := by decide +kernel
theorem dX9_add_28 : decode cX9_add 28 = .ok (.invokevirtual 243, 3) := by decide +kernel
theorem dX9_add_31 : decode cX9_add 31 = .ok (.pop, 1) := by decide +kernel
theorem dX9_add_32 : decode cX9_add 32 = .ok (.aload_n 3, 1) := by decide +kernel
theorem dX9_add_33 : decode cX9_add 33 = .ok (.iload_n 2, 1) := by decide +kernel
theorem dX9_add_34 : decode cX9_add 34 = .ok (.invokevirtual 160, 3) := by decide +kernel
theorem dX9_add_37 : decode cX9_add 37 = .ok (.ireturn, 1) := by decide +kernel
theorem dX9_remove_0 : decode cX9_remove 0 = .ok (.aload_n 0, 1) := by decide +kernel
theorem dX9_remove_1 : decode cX9_remove 1 = .ok (.iload_n 1, 1) := by decide +kernel
theorem dX9_remove_2 : decode cX9_remove 2 = .ok (.invokevirtual 247, 3) := by decide +kernel
theorem dX9_remove_5 : decode cX9_remove 5 = .ok (.aload_n 0, 1) := by decide +kernel
theorem dX9_remove_6 : decode cX9_remove 6 = .ok (.iload_n 2, 1) := by decide +kernel
theorem dX9_remove_7 : decode cX9_remove 7 = .ok (.invokevirtual 194, 3) := by decide +kernel
theorem dX9_remove_10 : decode cX9_remove 10 = .ok (.aload_n 0, 1) := by decide +kernel
theorem dX9_remove_11 : decode cX9_remove 11 = .ok (.getfield 19, 3) := by decide +kernel
theorem dX9_remove_14 : decode cX9_remove 14 = .ok (.aload_n 0, 1) := by decide +kernel
theorem dX9_remove_15 : decode cX9_remove 15 = .ok (.getfield 33, 3) := by decide +kernel
theorem dX9_remove_18 : decode cX9_remove 18 = .ok (.invokevirtual 239, 3) := by decide +kernel
theorem dX9_remove_21 : decode cX9_remove 21 = .ok (.aload_n 0, 1) := by decide +kernel
theorem dX9_remove_22 : decode cX9_remove 22 = .ok (.getfield 33, 3) := by decide +kernel
theorem dX9_remove_25 : decode cX9_remove 25 = .ok (.iload_n 1, 1) := by decide +kernel
theorem dX9_remove_26 : decode cX9_remove 26 = .ok (.iload_n 2, 1) := by decide +kernel
theorem dX9_remove_27 : decode cX9_remove 27 = .ok (.invokevirtual 250, 3) := by decide +kernel
theorem dX9_remove_30 : decode cX9_remove 30 = .ok (.ireturn, 1) := by decide +kernel
theorem dX9_clear_0 : decode cX9_clear 0 = .ok (.aload_n 0, 1) := by decide +kernel
theorem dX9_clear_1 : decode cX9_clear 1 = .ok (.iload_n 1, 1) := by decide +kernel
theorem dX9_clear_2 : decode cX9_clear 2 = .ok (.invokevirtual 122, 3) := by decide +kernel
theorem dX9_clear_5 : decode cX9_clear 5 = .ok (.getfield 126, 3) := by decide +kernel
theorem dX9_clear_8 : decode cX9_clear 8 = .ok (.istore_n 2, 1) := by decide +kernel
theorem dX9_clear_9 : decode cX9_clear 9 = .ok (.aload_n 0, 1) := by decide +kernel
theorem dX9_clear_10 : decode cX9_clear 10 = .ok (.getfield 19, 3) := by decide +kernel
theorem dX9_clear_13 : decode cX9_clear 13 = .ok (.aload_n 0, 1) := by decide +kernel
theorem dX9_clear_14 : decode cX9_clear 14 = .ok (.getfield 33, 3) := by decide +kernel
theorem dX9_clear_17 : decode cX9_clear 17 = .ok (.invokevirtual 239, 3) := by decide +kernel
theorem dX9_clear_20 : decode cX9_clear 20 = .ok (.aload_n 0, 1) := by decide +kernel
theorem dX9_clear_21 : decode cX9_clear 21 = .ok (.getfield 33, 3) := by decide +kernel
theorem dX9_clear_24 : decode cX9_clear 24 = .ok (.iload_n 1, 1) := by decide +kernel
theorem dX9_clear_25 : decode cX9_clear 25 = .ok (.invokevirtual 254, 3) := by decide +kernel
theorem dX9_clear_28 : decode cX9_clear 28 = .ok (.iload_n 2, 1) := by decide +kernel
theorem dX9_clear_29 : decode cX9_clear 29 = .ok (.ireturn, 1) := by decide +kernel
theorem dX9_mark_0 : decode cX9_mark 0 = .ok (.aload_n 0, 1) := by decide +kernel
theorem dX9_mark_1 : decode cX9_mark 1 = .ok (.getfield 33, 3) := by decide +kernel
theorem dX9_mark_4 : decode cX9_mark 4 = .ok (.getfield 96, 3) := by decide +kernel
theorem dX9_mark_7 : decode cX9_mark 7 = .ok (.bipush 8, 2) := by decide +kernel
theorem dX9_mark_9 : decode cX9_mark 9 = .ok (.if_icmp .lt 14, 3) := by decide +kernel
theorem dX9_mark_12 : decode cX9_mark 12 = .ok (.new 257, 3) := by decide +kernel
theorem dX9_mark_15 : decode cX9_mark 15 = .ok (.dup, 1) := by decide +kernel
theorem dX9_mark_16 : decode cX9_mark 16 = .ok (.ldc_w 259, 3) := by decide +kernel
theorem dX9_mark_19 : decode cX9_mark 19 = .ok (.invokespecial 261, 3) := by decide +kernel
theorem dX9_mark_22 : decode cX9_mark 22 = .ok (.athrow, 1) := by decide +kernel
theorem dX9_mark_23 : decode cX9_mark 23 = .ok (.aload_n 0, 1) := by decide +kernel
theorem dX9_mark_24 : decode cX9_mark 24 = .ok (.getfield 19, 3) := by decide +kernel
theorem dX9_mark_27 : decode cX9_mark 27 = .ok (.aload_n 0, 1) := by decide +kernel
theorem dX9_mark_28 : decode cX9_mark 28 = .ok (.getfield 33, 3) := by decide +kernel
theorem dX9_mark_31 : decode cX9_mark 31 = .ok (.invokevirtual 239, 3) := by decide +kernel
theorem dX9_mark_34 : decode cX9_mark 34 = .ok (.aload_n 0, 1) := by decide +kernel
theorem dX9_mark_35 : decode cX9_mark 35 = .ok (.getfield 33, 3) := by decide +kernel
theorem dX9_mark_38 : decode cX9_mark 38 = .ok (.invokevirtual 262, 3) := by decide +kernel
theorem dX9_mark_41 : decode cX9_mark 41 = .ok (.aload_n 0, 1) := by decide +kernel
theorem dX9_mark_42 : decode cX9_mark 42 = .ok (.getfield 33, 3) := by decide +kernel
theorem dX9_mark_45 : decode cX9_mark 45 = .ok (.getfield 96, 3) := by decide +kernel
theorem dX9_mark_48 : decode cX9_mark 48 = .ok (.iconst 1, 1) := by decide +kernel
theorem dX9_mark_49 : decode cX9_mark 49 = .ok (.isub, 1) := by decide +kernel
theorem dX9_mark_50 : decode cX9_mark 50 = .ok (.ireturn, 1) := by decide +kernel
theorem dX9_open_0 : decode cX9_open 0 = .ok (.aload_n 0, 1) := by decide +kernel
theorem dX9_open_1 : decode cX9_open 1 = .ok (.iload_n 1, 1) := by decide +kernel
theorem dX9_open_2 : decode cX9_open 2 = .ok (.invokevirtual 247, 3) := by decide +kernel
theorem dX9_open_5 : decode cX9_open 5 = .ok (.aload_n 0, 1) := by decide +kernel
theorem dX9_open_6 : decode cX9_open 6 = .ok (.getfield 33, 3) := by decide +kernel
theorem dX9_open_9 : decode cX9_open 9 = .ok (.invokevirtual 265, 3) := by decide +kernel
theorem dX9_open_12 : decode cX9_open 12 = .ok (.istore_n 3, 1) := by decide +kernel
theorem dX9_open_13 : decode cX9_open 13 = .ok (.iload_n 3, 1) := by decide +kernel
theorem dX9_open_14 : decode cX9_open 14 = .ok (.iconst (-1), 1) := by decide +kernel
theorem dX9_open_15 : decode cX9_open 15 = .ok (.if_icmp .ne 14, 3) := by decide +kernel
theorem dX9_open_18 : decode cX9_open 18 = .ok (.new 257, 3) := by decide +kernel
theorem dX9_open_21 : decode cX9_open 21 = .ok (.dup, 1) := by decide +kernel
theorem dX9_open_22 : decode cX9_open 22 = .ok (.ldc_w 268, 3) := by decide +kernel
theorem dX9_open_25 : decode cX9_open 25 = .ok (.invokespecial 261, 3) := by decide +kernel
theorem dX9_open_28 : decode cX9_open 28 = .ok (.athrow, 1) := by decide +kernel
theorem dX9_open_29 : decode cX9_open 29 = .ok (.aload_n 0, 1) := by decide +kernel
theorem dX9_open_30 : decode cX9_open 30 = .ok (.getfield 19, 3) := by decide +kernel
theorem dX9_open_33 : decode cX9_open 33 = .ok (.aload_n 0, 1) := by decide +kernel
theorem dX9_open_34 : decode cX9_open 34 = .ok (.getfield 33, 3) := by decide +kernel
theorem dX9_open_37 : decode cX9_open 37 = .ok (.invokevirtual 239, 3) := by decide +kernel
theorem dX9_open_40 : decode cX9_open 40 = .ok (.aload_n 0, 1) := by decide +kernel
theorem dX9_open_41 : decode cX9_open 41 = .ok (.getfield 33, 3) := by decide +kernel
theorem dX9_open_44 : decode cX9_open 44 = .ok (.getfield 270, 3) := by decide +kernel
theorem dX9_open_47 : decode cX9_open 47 = .ok (.iload_n 3, 1) := by decide +kernel
theorem dX9_open_48 : decode cX9_open 48 = .ok (.aaload, 1) := by decide +kernel
theorem dX9_open_49 : decode cX9_open 49 = .ok (.iload_n 1, 1) := by decide +kernel
theorem dX9_open_50 : decode cX9_open 50 = .ok (.iload_n 2, 1) := by decide +kernel
theorem dX9_open_51 : decode cX9_open 51 = .ok (.aload_n 0, 1) := by decide +kernel
theorem dX9_open_52 : decode cX9_open 52 = .ok (.getfield 33, 3) := by decide +kernel
theorem dX9_open_55 : decode cX9_open 55 = .ok (.getfield 93, 3) := by decide +kernel
theorem dX9_open_58 : decode cX9_open 58 = .ok (.invokevirtual 274, 3) := by decide +kernel
theorem dX9_open_61 : decode cX9_open 61 = .ok (.iload_n 3, 1) := by decide +kernel
theorem dX9_open_62 : decode cX9_open 62 = .ok (.ireturn, 1) := by decide +kernel
theorem dX9_close_0 : decode cX9_close 0 = .ok (.aload_n 0, 1) := by decide +kernel
theorem dX9_close_1 : decode cX9_close 1 = .ok (.iload_n 1, 1) := by decide +kernel
theorem dX9_close_2 : decode cX9_close 2 = .ok (.invokevirtual 203, 3) := by decide +kernel
theorem dX9_close_5 : decode cX9_close 5 = .ok (.astore_n 2, 1) := by decide +kernel
theorem dX9_close_6 : decode cX9_close 6 = .ok (.aload_n 0, 1) := by decide +kernel
theorem dX9_close_7 : decode cX9_close 7 = .ok (.getfield 19, 3) := by decide +kernel
theorem dX9_close_10 : decode cX9_close 10 = .ok (.aload_n 0, 1) := by decide +kernel
theorem dX9_close_11 : decode cX9_close 11 = .ok (.getfield 33, 3) := by decide +kernel
theorem dX9_close_14 : decode cX9_close 14 = .ok (.invokevirtual 239, 3) := by decide +kernel
theorem dX9_close_17 : decode cX9_close 17 = .ok (.aload_n 2, 1) := by decide +kernel
theorem dX9_close_18 : decode cX9_close 18 = .ok (.iconst 0, 1) := by decide +kernel
theorem dX9_close_19 : decode cX9_close 19 = .ok (.putfield 277, 3) := by decide +kernel
theorem dX9_close_22 : decode cX9_close 22 = .ok (.aload_n 2, 1) := by decide +kernel
theorem dX9_close_23 : decode cX9_close 23 = .ok (.iconst 0, 1) := by decide +kernel
theorem dX9_close_24 : decode cX9_close 24 = .ok (.putfield 215, 3) := by decide +kernel
theorem dX9_close_27 : decode cX9_close 27 = .ok (.aload_n 2, 1) := by decide +kernel
theorem dX9_close_28 : decode cX9_close 28 = .ok (.getfield 225, 3) := by decide +kernel
theorem dX9_close_31 : decode cX9_close 31 = .ok (.ireturn, 1) := by decide +kernel
theorem dX9_step_0 : decode cX9_step 0 = .ok (.aload_n 0, 1) := by decide +kernel
theorem dX9_step_1 : decode cX9_step 1 = .ok (.iload_n 1, 1) := by decide +kernel
theorem dX9_step_2 : decode cX9_step 2 = .ok (.invokevirtual 203, 3) := by decide +kernel
theorem dX9_step_5 : decode cX9_step 5 = .ok (.astore_n 2, 1) := by decide +kernel
theorem dX9_step_6 : decode cX9_step 6 = .ok (.aload_n 0, 1) := by decide +kernel
theorem dX9_step_7 : decode cX9_step 7 = .ok (.getfield 19, 3) := by decide +kernel
theorem dX9_step_10 : decode cX9_step 10 = .ok (.aload_n 0, 1) := by decide +kernel
theorem dX9_step_11 : decode cX9_step 11 = .ok (.getfield 33, 3) := by decide +kernel
theorem dX9_step_14 : decode cX9_step 14 = .ok (.invokevirtual 239, 3) := by decide +kernel
theorem dX9_step_17 : decode cX9_step 17 = .ok (.aload_n 2, 1) := by decide +kernel
theorem dX9_step_18 : decode cX9_step 18 = .ok (.getfield 215, 3) := by decide +kernel
theorem dX9_step_21 : decode cX9_step 21 = .ok (.ifCond .eq 14, 3) := by decide +kernel
theorem dX9_step_24 : decode cX9_step 24 = .ok (.aload_n 0, 1) := by decide +kernel
theorem dX9_step_25 : decode cX9_step 25 = .ok (.getfield 33, 3) := by decide +kernel
theorem dX9_step_28 : decode cX9_step 28 = .ok (.aload_n 2, 1) := by decide +kernel
theorem dX9_step_29 : decode cX9_step 29 = .ok (.invokevirtual 280, 3) := by decide +kernel
theorem dX9_step_32 : decode cX9_step 32 = .ok (.goto 4, 3) := by decide +kernel
theorem dX9_step_35 : decode cX9_step 35 = .ok (.iconst (-1), 1) := by decide +kernel
theorem dX9_step_36 : decode cX9_step 36 = .ok (.ireturn, 1) := by decide +kernel
theorem dX9_removeMet_0 : decode cX9_removeMet 0 = .ok (.aload_n 0, 1) := by decide +kernel
theorem dX9_removeMet_1 : decode cX9_removeMet 1 = .ok (.iload_n 1, 1) := by decide +kernel
theorem dX9_removeMet_2 : decode cX9_removeMet 2 = .ok (.invokevirtual 203, 3) := by decide +kernel
theorem dX9_removeMet_5 : decode cX9_removeMet 5 = .ok (.astore_n 2, 1) := by decide +kernel
theorem dX9_removeMet_6 : decode cX9_removeMet 6 = .ok (.aload_n 2, 1) := by decide +kernel
theorem dX9_removeMet_7 : decode cX9_removeMet 7 = .ok (.getfield 228, 3) := by decide +kernel
theorem dX9_removeMet_10 : decode cX9_removeMet 10 = .ok (.istore_n 3, 1) := by decide +kernel
theorem dX9_removeMet_11 : decode cX9_removeMet 11 = .ok (.aload_n 2, 1) := by decide +kernel
theorem dX9_removeMet_12 : decode cX9_removeMet 12 = .ok (.getfield 215, 3) := by decide +kernel
theorem dX9_removeMet_15 : decode cX9_removeMet 15 = .ok (.ifCond .eq 22, 3) := by decide +kernel
theorem dX9_removeMet_18 : decode cX9_removeMet 18 = .ok (.aload_n 0, 1) := by decide +kernel
theorem dX9_removeMet_19 : decode cX9_removeMet 19 = .ok (.getfield 33, 3) := by decide +kernel
theorem dX9_removeMet_22 : decode cX9_removeMet 22 = .ok (.getfield 283, 3) := by decide +kernel
theorem dX9_removeMet_25 : decode cX9_removeMet 25 = .ok (.aload_n 2, 1) := by decide +kernel
theorem dX9_removeMet_26 : decode cX9_removeMet 26 = .ok (.getfield 207, 3) := by decide +kernel
theorem dX9_removeMet_29 : decode cX9_removeMet 29 = .ok (.aaload, 1) := by decide +kernel
theorem dX9_removeMet_30 : decode cX9_removeMet 30 = .ok (.iload_n 3, 1) := by decide +kernel
theorem dX9_removeMet_31 : decode cX9_removeMet 31 = .ok (.invokevirtual 163, 3) := by decide +kernel
theorem dX9_removeMet_34 : decode cX9_removeMet 34 = .ok (.ifCond .ne 14, 3) := by decide +kernel
theorem dX9_removeMet_37 : decode cX9_removeMet 37 = .ok (.new 257, 3) := by decide +kernel
theorem dX9_removeMet_40 : decode cX9_removeMet 40 = .ok (.dup, 1) := by decide +kernel
theorem dX9_removeMet_41 : decode cX9_removeMet 41 = .ok (.ldc_w 287, 3) := by decide +kernel
theorem dX9_removeMet_44 : decode cX9_removeMet 44 = .ok (.invokespecial 261, 3) := by decide +kernel
theorem dX9_removeMet_47 : decode cX9_removeMet 47 = .ok (.athrow, 1) := by decide +kernel
theorem dX9_removeMet_48 : decode cX9_removeMet 48 = .ok (.aload_n 0, 1) := by decide +kernel
theorem dX9_removeMet_49 : decode cX9_removeMet 49 = .ok (.getfield 19, 3) := by decide +kernel
theorem dX9_removeMet_52 : decode cX9_removeMet 52 = .ok (.aload_n 0, 1) := by decide +kernel
theorem dX9_removeMet_53 : decode cX9_removeMet 53 = .ok (.getfield 33, 3) := by decide +kernel
theorem dX9_removeMet_56 : decode cX9_removeMet 56 = .ok (.invokevirtual 239, 3) := by decide +kernel
theorem dX9_removeMet_59 : decode cX9_removeMet 59 = .ok (.aload_n 0, 1) := by decide +kernel
theorem dX9_removeMet_60 : decode cX9_removeMet 60 = .ok (.getfield 33, 3) := by decide +kernel
theorem dX9_removeMet_63 : decode cX9_removeMet 63 = .ok (.aload_n 2, 1) := by decide +kernel
theorem dX9_removeMet_64 : decode cX9_removeMet 64 = .ok (.getfield 207, 3) := by decide +kernel
theorem dX9_removeMet_67 : decode cX9_removeMet 67 = .ok (.iload_n 3, 1) := by decide +kernel
theorem dX9_removeMet_68 : decode cX9_removeMet 68 = .ok (.invokevirtual 250, 3) := by decide +kernel
theorem dX9_removeMet_71 : decode cX9_removeMet 71 = .ok (.pop, 1) := by decide +kernel
theorem dX9_removeMet_72 : decode cX9_removeMet 72 = .ok (.iload_n 3, 1) := by decide +kernel
theorem dX9_removeMet_73 : decode cX9_removeMet 73 = .ok (.ireturn, 1) := by decide +kernel
theorem dX9_keep_0 : decode cX9_keep 0 = .ok (.aload_n 0, 1) := by decide +kernel
theorem dX9_keep_1 : decode cX9_keep 1 = .ok (.iload_n 1, 1) := by decide +kernel
theorem dX9_keep_2 : decode cX9_keep 2 = .ok (.invokevirtual 247, 3) := by decide +kernel
theorem dX9_keep_5 : decode cX9_keep 5 = .ok (.aload_n 0, 1) := by decide +kernel
theorem dX9_keep_6 : decode cX9_keep 6 = .ok (.iload_n 2, 1) := by decide +kernel
theorem dX9_keep_7 : decode cX9_keep 7 = .ok (.invokevirtual 247, 3) := by decide +kernel
theorem dX9_keep_10 : decode cX9_keep 10 = .ok (.aload_n 0, 1) := by decide +kernel
theorem dX9_keep_11 : decode cX9_keep 11 = .ok (.getfield 19, 3) := by decide +kernel
theorem dX9_keep_14 : decode cX9_keep 14 = .ok (.aload_n 0, 1) := by decide +kernel
theorem dX9_keep_15 : decode cX9_keep 15 = .ok (.getfield 33, 3) := by decide +kernel
theorem dX9_keep_18 : decode cX9_keep 18 = .ok (.invokevirtual 239, 3) := by decide +kernel
theorem dX9_keep_21 : decode cX9_keep 21 = .ok (.aload_n 0, 1) := by decide +kernel
theorem dX9_keep_22 : decode cX9_keep 22 = .ok (.getfield 33, 3) := by decide +kernel
theorem dX9_keep_25 : decode cX9_keep 25 = .ok (.iload_n 1, 1) := by decide +kernel
theorem dX9_keep_26 : decode cX9_keep 26 = .ok (.iload_n 2, 1) := by decide +kernel
theorem dX9_keep_27 : decode cX9_keep 27 = .ok (.invokevirtual 289, 3) := by decide +kernel
theorem dX9_keep_30 : decode cX9_keep 30 = .ok (.ireturn, 1) := by decide +kernel
theorem dX9_unite_0 : decode cX9_unite 0 = .ok (.aload_n 0, 1) := by decide +kernel
theorem dX9_unite_1 : decode cX9_unite 1 = .ok (.iload_n 1, 1) := by decide +kernel
theorem dX9_unite_2 : decode cX9_unite 2 = .ok (.invokevirtual 247, 3) := by decide +kernel
theorem dX9_unite_5 : decode cX9_unite 5 = .ok (.aload_n 0, 1) := by decide +kernel
theorem dX9_unite_6 : decode cX9_unite 6 = .ok (.iload_n 2, 1) := by decide +kernel
theorem dX9_unite_7 : decode cX9_unite 7 = .ok (.invokevirtual 247, 3) := by decide +kernel
theorem dX9_unite_10 : decode cX9_unite 10 = .ok (.aload_n 0, 1) := by decide +kernel
theorem dX9_unite_11 : decode cX9_unite 11 = .ok (.getfield 19, 3) := by decide +kernel
theorem dX9_unite_14 : decode cX9_unite 14 = .ok (.aload_n 0, 1) := by decide +kernel
theorem dX9_unite_15 : decode cX9_unite 15 = .ok (.getfield 33, 3) := by decide +kernel
theorem dX9_unite_18 : decode cX9_unite 18 = .ok (.invokevirtual 239, 3) := by decide +kernel
theorem dX9_unite_21 : decode cX9_unite 21 = .ok (.aload_n 0, 1) := by decide +kernel
theorem dX9_unite_22 : decode cX9_unite 22 = .ok (.getfield 33, 3) := by decide +kernel
theorem dX9_unite_25 : decode cX9_unite 25 = .ok (.iload_n 1, 1) := by decide +kernel
theorem dX9_unite_26 : decode cX9_unite 26 = .ok (.iload_n 2, 1) := by decide +kernel
theorem dX9_unite_27 : decode cX9_unite 27 = .ok (.invokevirtual 293, 3) := by decide +kernel
theorem dX9_unite_30 : decode cX9_unite 30 = .ok (.ireturn, 1) := by decide +kernel
theorem dX9_undo_0 : decode cX9_undo 0 = .ok (.aload_n 0, 1) := by decide +kernel
theorem dX9_undo_1 : decode cX9_undo 1 = .ok (.getfield 19, 3) := by decide +kernel
theorem dX9_undo_4 : decode cX9_undo 4 = .ok (.aload_n 0, 1) := by decide +kernel
theorem dX9_undo_5 : decode cX9_undo 5 = .ok (.getfield 33, 3) := by decide +kernel
theorem dX9_undo_8 : decode cX9_undo 8 = .ok (.invokevirtual 296, 3) := by decide +kernel
theorem dX9_undo_11 : decode cX9_undo 11 = .ok (.ifCond .eq 13, 3) := by decide +kernel
theorem dX9_undo_14 : decode cX9_undo 14 = .ok (.aload_n 0, 1) := by decide +kernel
theorem dX9_undo_15 : decode cX9_undo 15 = .ok (.getfield 19, 3) := by decide +kernel
theorem dX9_undo_18 : decode cX9_undo 18 = .ok (.getfield 106, 3) := by decide +kernel
theorem dX9_undo_21 : decode cX9_undo 21 = .ok (.goto 4, 3) := by decide +kernel
theorem dX9_undo_24 : decode cX9_undo 24 = .ok (.iconst (-1), 1) := by decide +kernel
theorem dX9_undo_25 : decode cX9_undo 25 = .ok (.ireturn, 1) := by decide +kernel
theorem dX9_checkSlot_0 : decode cX9_checkSlot 0 = .ok (.iload_n 1, 1) := by decide +kernel
theorem dX9_checkSlot_1 : decode cX9_checkSlot 1 = .ok (.ifCond .lt 8, 3) := by decide +kernel
theorem dX9_checkSlot_4 : decode cX9_checkSlot 4 = .ok (.iload_n 1, 1) := by decide +kernel
theorem dX9_checkSlot_5 : decode cX9_checkSlot 5 = .ok (.iconst 2, 1) := by decide +kernel
theorem dX9_checkSlot_6 : decode cX9_checkSlot 6 = .ok (.if_icmp .lt 14, 3) := by decide +kernel
theorem dX9_checkSlot_9 : decode cX9_checkSlot 9 = .ok (.new 320, 3) := by decide +kernel
theorem dX9_checkSlot_12 : decode cX9_checkSlot 12 = .ok (.dup, 1) := by decide +kernel
theorem dX9_checkSlot_13 : decode cX9_checkSlot 13 = .ok (.ldc_w 331, 3) := by decide +kernel
theorem dX9_checkSlot_16 : decode cX9_checkSlot 16 = .ok (.invokespecial 324, 3) := by decide +kernel
theorem dX9_checkSlot_19 : decode cX9_checkSlot 19 = .ok (.athrow, 1) := by decide +kernel
theorem dX9_checkSlot_20 : decode cX9_checkSlot 20 = .ok (.return_, 1) := by decide +kernel
theorem dX9_saveSnapshot_0 : decode cX9_saveSnapshot 0 = .ok (.aload_n 0, 1) := by decide +kernel
theorem dX9_saveSnapshot_1 : decode cX9_saveSnapshot 1 = .ok (.iload_n 1, 1) := by decide +kernel
theorem dX9_saveSnapshot_2 : decode cX9_saveSnapshot 2 = .ok (.invokevirtual 300, 3) := by decide +kernel
theorem dX9_saveSnapshot_5 : decode cX9_saveSnapshot 5 = .ok (.aload_n 0, 1) := by decide +kernel
theorem dX9_saveSnapshot_6 : decode cX9_saveSnapshot 6 = .ok (.getfield 26, 3) := by decide +kernel
theorem dX9_saveSnapshot_9 : decode cX9_saveSnapshot 9 = .ok (.getfield 303, 3) := by decide +kernel
theorem dX9_saveSnapshot_12 : decode cX9_saveSnapshot 12 = .ok (.iload_n 1, 1) := by decide +kernel
theorem dX9_saveSnapshot_13 : decode cX9_saveSnapshot 13 = .ok (.baload, 1) := by decide +kernel
theorem dX9_saveSnapshot_14 : decode cX9_saveSnapshot 14 = .ok (.istore_n 2, 1) := by decide +kernel
theorem dX9_saveSnapshot_15 : decode cX9_saveSnapshot 15 = .ok (.aload_n 0, 1) := by decide +kernel
theorem dX9_saveSnapshot_16 : decode cX9_saveSnapshot 16 = .ok (.getfield 26, 3) := by decide +kernel
theorem dX9_saveSnapshot_19 : decode cX9_saveSnapshot 19 = .ok (.iload_n 1, 1) := by decide +kernel
theorem dX9_saveSnapshot_20 : decode cX9_saveSnapshot 20 = .ok (.aload_n 0, 1) := by decide +kernel
theorem dX9_saveSnapshot_21 : decode cX9_saveSnapshot 21 = .ok (.getfield 33, 3) := by decide +kernel
theorem dX9_saveSnapshot_24 : decode cX9_saveSnapshot 24 = .ok (.invokevirtual 307, 3) := by decide +kernel
theorem dX9_saveSnapshot_27 : decode cX9_saveSnapshot 27 = .ok (.iload_n 2, 1) := by decide +kernel
theorem dX9_saveSnapshot_28 : decode cX9_saveSnapshot 28 = .ok (.ireturn, 1) := by decide +kernel
theorem dX9_restoreSnapshot_0 : decode cX9_restoreSnapshot 0 = .ok (.aload_n 0, 1) := by decide +kernel
theorem dX9_restoreSnapshot_1 : decode cX9_restoreSnapshot 1 = .ok (.iload_n 1, 1) := by decide +kernel
theorem dX9_restoreSnapshot_2 : decode cX9_restoreSnapshot 2 = .ok (.invokevirtual 300, 3) := by decide +kernel
theorem dX9_restoreSnapshot_5 : decode cX9_restoreSnapshot 5 = .ok (.aload_n 0, 1) := by decide +kernel
theorem dX9_restoreSnapshot_6 : decode cX9_restoreSnapshot 6 = .ok (.getfield 26, 3) := by decide +kernel
theorem dX9_restoreSnapshot_9 : decode cX9_restoreSnapshot 9 = .ok (.iload_n 1, 1) := by decide +kernel
theorem dX9_restoreSnapshot_10 : decode cX9_restoreSnapshot 10 = .ok (.invokevirtual 311, 3) := by decide +kernel
theorem dX9_restoreSnapshot_13 : decode cX9_restoreSnapshot 13 = .ok (.astore_n 2, 1) := by decide +kernel
theorem dX9_restoreSnapshot_14 : decode cX9_restoreSnapshot 14 = .ok (.aload_n 2, 1) := by decide +kernel
theorem dX9_restoreSnapshot_15 : decode cX9_restoreSnapshot 15 = .ok (.ifnonnull 14, 3) := by decide +kernel
theorem dX9_restoreSnapshot_18 : decode cX9_restoreSnapshot 18 = .ok (.new 257, 3) := by decide +kernel
theorem dX9_restoreSnapshot_21 : decode cX9_restoreSnapshot 21 = .ok (.dup, 1) := by decide +kernel
theorem dX9_restoreSnapshot_22 : decode cX9_restoreSnapshot 22 = .ok (.ldc_w 315, 3) := by decide +kernel
theorem dX9_restoreSnapshot_25 : decode cX9_restoreSnapshot 25 = .ok (.invokespecial 261, 3) := by decide +kernel
theorem dX9_restoreSnapshot_28 : decode cX9_restoreSnapshot 28 = .ok (.athrow, 1) := by decide +kernel
theorem dX9_restoreSnapshot_29 : decode cX9_restoreSnapshot 29 = .ok (.aload_n 0, 1) := by decide +kernel
theorem dX9_restoreSnapshot_30 : decode cX9_restoreSnapshot 30 = .ok (.getfield 33, 3) := by decide +kernel
theorem dX9_restoreSnapshot_33 : decode cX9_restoreSnapshot 33 = .ok (.aload_n 2, 1) := by decide +kernel
theorem dX9_restoreSnapshot_34 : decode cX9_restoreSnapshot 34 = .ok (.invokevirtual 317, 3) := by decide +kernel
theorem dX9_restoreSnapshot_37 : decode cX9_restoreSnapshot 37 = .ok (.aload_n 0, 1) := by decide +kernel
theorem dX9_restoreSnapshot_38 : decode cX9_restoreSnapshot 38 = .ok (.getfield 19, 3) := by decide +kernel
theorem dX9_restoreSnapshot_41 : decode cX9_restoreSnapshot 41 = .ok (.invokevirtual 78, 3) := by decide +kernel
theorem dX9_restoreSnapshot_44 : decode cX9_restoreSnapshot 44 = .ok (.aload_n 0, 1) := by decide +kernel
theorem dX9_restoreSnapshot_45 : decode cX9_restoreSnapshot 45 = .ok (.getfield 33, 3) := by decide +kernel
theorem dX9_restoreSnapshot_48 : decode cX9_restoreSnapshot 48 = .ok (.getfield 93, 3) := by decide +kernel
theorem dX9_restoreSnapshot_51 : decode cX9_restoreSnapshot 51 = .ok (.ireturn, 1) := by decide +kernel
